/-! LOWEST bits, picks, worths, what is lost, what is safe. -/
theorem bb_sub1 {x : Int64} {m : Nat} (h1 : bb x m = true) (h2 : ∀ q, q < m → bb x q = false) (q : Nat) : bb (x - 1) q = if q < m then true else if q = m then false else bb x q := by
  have hm : m < 64 := Nat.not_le.mp fun r => by rw [bb_big r] at h1; cases h1
  have e : un x = 2 ^ (m + 1) * (un x / 2 ^ (m + 1)) + 2 ^ m := by
    have h3 : un x % 2 ^ (m + 1) = 2 ^ m := by
      apply Nat.eq_of_testBit_eq
      intro j
      rw [Nat.testBit_mod_two_pow, Nat.testBit_two_pow]
      have hj : (un x).testBit j = bb x j := rfl
      rw [hj]
      rcases Nat.lt_trichotomy j m with r | r | r
      · rw [h2 j r]; simp; omega
      · rw [r, h1]; simp
      · have e1 : ¬ j < m + 1 := by omega
        have e2 : ¬ m = j := by omega
        simp [e1, e2]
    rw [← h3]
    exact (Nat.div_add_mod _ _).symm
  have hp : 0 < 2 ^ m := Nat.two_pow_pos m
  have h1' : un (1 : Int64) = 1 := rfl
  have e2 : un (x - 1) = 2 ^ (m + 1) * (un x / 2 ^ (m + 1)) + (2 ^ m - 1) := by
    rw [un_sub (by rw [h1', e]; omega), h1']
    omega
  have hb : bb (x - 1) q = (un (x - 1)).testBit q := rfl
  have hb2 : bb x q = (un x).testBit q := rfl
  have l1 : 2 ^ m < 2 ^ (m + 1) := Nat.pow_lt_pow_right (by omega) (by omega)
  rw [hb, hb2, e2, Nat.testBit_two_pow_mul_add _ (by omega), Nat.testBit_two_pow_sub_one]
  conv => rhs; rw [e]
  rw [Nat.testBit_two_pow_mul_add _ l1, Nat.testBit_two_pow]
  rcases Nat.lt_trichotomy q m with r | r | r
  · rw [if_pos (by omega), if_pos r]; simp [r]
  · rw [if_pos (by omega), if_neg (by omega), if_pos r]; simp; omega
  · rw [if_neg (by omega), if_neg (by omega), if_neg (by omega), if_neg (by omega)]
theorem neg_not (x : Int64) : -x = (x - 1) ^^^ (-1) := by
  apply Int64.toBitVec_inj.1
  rw [Int64.toBitVec_neg, Int64.toBitVec_xor, Int64.toBitVec_sub, BitVec.neg_eq_not_add, ← BitVec.not_sub_one_eq_not_add_one]
  have e : (1 : Int64).toBitVec = 1#64 := rfl
  have e2 : (-1 : Int64).toBitVec = BitVec.allOnes 64 := by decide +kernel
  rw [e, e2, BitVec.xor_allOnes]
section PK
variable {I : tq_PI} {L : tq_PL} {a w h : Nat} {K : Nat → Nat}
theorem c_low0 : FX11_lowest I L 0 = 0 := by unfold FX11_lowest; decide
theorem c_low {x : Int64} {m : Nat} (h1 : bb x m = true) (h2 : ∀ q, q < m → bb x q = false) : bb (FX11_lowest I L x) = fun q => decide (q = m) := funext fun q => by
  unfold FX11_lowest
  rw [neg_not, bb_minus, bb_sub1 h1 h2]
  rcases Nat.lt_trichotomy q m with r | r | r
  · rw [h2 q r]; simp; omega
  · rw [r, h1]; simp
  · rw [if_neg (by omega), if_neg (by omega)]
    simp
    omega
/-- the least of a set, if there is one -/
theorem bb_least {x : Int64} (h : x ≠ 0) : ∃ m, m < 64 ∧ bb x m = true ∧ ∀ q, q < m → bb x q = false := by
  obtain ⟨p, hp, h1⟩ := bb_ne0 h
  obtain ⟨m, hm, h2, h3⟩ := fb_first (p := fun i => bb x i = true) (n := 64) ⟨p, hp, h1⟩
  exact ⟨m, hm, h2, fun q hq => by simpa using h3 q hq⟩
theorem bb_one_of {x : Int64} {m : Nat} (h : bb x = fun q => decide (q = m)) : bb x m = true ∧ ∀ q, q < m → bb x q = false := by
  rw [h]
  exact ⟨by simp, fun q hq => by simp; omega⟩
theorem ct_lt_m {m : Nat} : ∀ n, fb_ct (fun q => decide (q < m)) n = if n ≤ m then n else m
  | 0 => by simp; rfl
  | n + 1 => by
    rw [fb_ct_succ, ct_lt_m n]
    by_cases q : n < m
    · simp [q, Nat.le_of_lt q]; omega
    · simp [q]; split <;> split <;> omega
theorem c_num {x : Int64} {m : Nat} (hw : I a 0 = zI (w : Int)) (hw8 : w ≤ 8) (hm : m < 64) (hx : bb x = fun q => decide (q = m)) : FX3_numberOf I L a x = some (zI (cl w m : Nat)) := by
  have e : fb_ct (bb (x - 1)) 64 = m := by
    have : bb (x - 1) = fun q => decide (q < m) := funext fun q => by
      rw [bb_sub1 (bb_one_of hx).1 (bb_one_of hx).2, hx]
      by_cases r : q < m
      · simp [r]
      · rw [if_neg r]
        by_cases r2 : q = m
        · simp [r2]
        · simp [r, r2]
    rw [this, ct_lt_m]
    split <;> omega
  unfold FX3_numberOf
  rw [zlet, bc_eq, e, hw]
  simp (disch := omega) only [zlet, obind, zI_lit, zI_neg, zI_add, zI_sub, zI_mul, zI_div, zI_le, zI_lt, zI_eq, zI_cl, irem, ile_t, ile_f, ilt_t, ilt_f, ieq_t, ieq_f, and_true, true_and, and_false, false_and, and_self, not_true_eq_false, not_false_eq_true, ↓reduceIte, Int.toNat_natCast, tqb_z, tqb_t, tqb_f]
  congr 1
def wor (k : Nat) : Nat := if k = 1 then 1 else if k = 2 then 4 else if k = 3 then 2 else 0
def blo (k : Nat) : Nat := if k = 1 then 1 else if k = 2 then 2 else if k = 3 then 3 else 0
def ws (f : Nat → Nat) (K : Nat → Nat) (S : Nat → Bool) : Nat := fb_sm (fun p => if S p then f (K p) else 0) 64
theorem sm_mul (c : Nat) (f : Nat → Nat) : ∀ n, fb_sm (fun k => c * f k) n = c * fb_sm f n
  | 0 => rfl
  | n + 1 => by rw [fb_sm_succ, fb_sm_succ, sm_mul c f n, Nat.mul_add]
theorem c_worth (H : HC I L a w h K) (x : Int64) : FX3_worthOf I L a x = zI (ws wor K (bb x) : Nat) := by
  unfold FX3_worthOf
  simp only [zlet, bc_eq, zlet, obind, zI_lit, zI_neg, zI_add, zI_sub, zI_mul, zI_div, zI_le, zI_lt, zI_eq, zI_cl, irem, ile_t, ile_f, ilt_t, ilt_f, ieq_t, ieq_f, and_true, true_and, and_false, false_and, and_self, not_true_eq_false, not_false_eq_true, ↓reduceIte, Int.toNat_natCast, tqb_z, tqb_t, tqb_f]
  congr 1
  unfold ws
  rw [ct_sm, ct_sm, ct_sm]
  have : fb_sm (fun p => if bb x p then wor (K p) else 0) 64 = fb_sm (fun p => if bb (L a 6 &&& x) p then 1 else 0) 64 + 4 * fb_sm (fun p => if bb (L a 7 &&& x) p then 1 else 0) 64 + 2 * fb_sm (fun p => if bb (L a 8 &&& x) p then 1 else 0) 64 := by
    rw [← sm_mul, ← sm_mul, ← fb_sm_add, ← fb_sm_add]
    refine fb_sm_cong fun p _ => ?_
    rw [bb_and, bb_and, bb_and, H.m1, H.m2, H.m3]
    unfold wor
    cases bb x p
    · simp
    · by_cases e1 : K p = 1
      · simp [e1]
      · by_cases e2 : K p = 2
        · simp [e2]
        · by_cases e3 : K p = 3
          · simp [e3]
          · simp [e1, e2, e3]
  rw [this]
  omega
theorem c_blows (H : HC I L a w h K) (x : Int64) : FX3_blowsOf I L a x = zI (ws blo K (bb x) : Nat) := by
  unfold FX3_blowsOf
  simp only [zlet, bc_eq, zlet, obind, zI_lit, zI_neg, zI_add, zI_sub, zI_mul, zI_div, zI_le, zI_lt, zI_eq, zI_cl, irem, ile_t, ile_f, ilt_t, ilt_f, ieq_t, ieq_f, and_true, true_and, and_false, false_and, and_self, not_true_eq_false, not_false_eq_true, ↓reduceIte, Int.toNat_natCast, tqb_z, tqb_t, tqb_f]
  congr 1
  unfold ws
  rw [ct_sm, ct_sm, ct_sm]
  have : fb_sm (fun p => if bb x p then blo (K p) else 0) 64 = fb_sm (fun p => if bb (L a 6 &&& x) p then 1 else 0) 64 + 2 * fb_sm (fun p => if bb (L a 7 &&& x) p then 1 else 0) 64 + 3 * fb_sm (fun p => if bb (L a 8 &&& x) p then 1 else 0) 64 := by
    rw [← sm_mul, ← sm_mul, ← fb_sm_add, ← fb_sm_add]
    refine fb_sm_cong fun p _ => ?_
    rw [bb_and, bb_and, bb_and, H.m1, H.m2, H.m3]
    unfold blo
    cases bb x p
    · simp
    · by_cases e1 : K p = 1
      · simp [e1]
      · by_cases e2 : K p = 2
        · simp [e2]
        · by_cases e3 : K p = 3
          · simp [e3]
          · simp [e1, e2, e3]
  rw [this]
  omega
theorem ws_one (f : Nat → Nat) (K : Nat → Nat) {p : Nat} (hp : p < 64) : ws f K (fun q => decide (q = p)) = f (K p) := by
  unfold ws
  have := fb_sm_upd (fun _ => 0) (f (K p)) (i := p) (n := 64) hp
  rw [fb_sm_const] at this
  simp only [Nat.mul_zero, Nat.add_zero, Nat.zero_add] at this
  rw [← this]
  refine fb_sm_cong fun q _ => ?_
  by_cases e : q = p
  · simp [e]
  · simp [e]
theorem ws_0 (f : Nat → Nat) (K : Nat → Nat) : ws f K (fun _ => false) = 0 := by
  unfold ws
  simp only [Bool.false_eq_true, if_false]
  rw [fb_sm_const]
theorem ws_le {f : Nat → Nat} (K : Nat → Nat) (S : Nat → Bool) (hf : ∀ k, f k ≤ 4) : ws f K S ≤ 256 := by
  unfold ws
  have := fb_sm_le (f := fun p => if S p then f (K p) else 0) (g := fun _ => 4) (n := 64) (fun p _ => by split <;> first | exact hf _ | omega)
  rw [fb_sm_const] at this
  omega
theorem wor_le (k : Nat) : wor k ≤ 4 := by unfold wor; split <;> first | omega | (split <;> first | omega | (split <;> omega))
theorem blo_le (k : Nat) : blo k ≤ 4 := by unfold blo; split <;> first | omega | (split <;> first | omega | (split <;> omega))
/-- how many are lost by a cell's being air -/
def los (h : Nat) (K : Nat → Nat) (p : Nat) : Nat := fb_ct (sol (kup K p 0)) 64 - fb_ct (stl h (sol (kup K p 0))) 64
theorem ct_minus {P Q : Nat → Bool} (h : ∀ p, Q p = true → P p = true) (n : Nat) : fb_ct (fun p => P p && !Q p) n + fb_ct Q n = fb_ct P n := by
  have := fb_ct_or (p := fun p => P p && !Q p) (q := Q) (n := n) (fun k _ r => by simp only [Bool.and_eq_true, Bool.not_eq_true'] at r; rw [r.1.2] at r; cases r.2)
  rw [← this]
  refine fb_ct_cong fun p _ => ?_
  cases e : Q p
  · simp
  · simp [h p e]
theorem kup_z {p : Nat} {v : Nat} (z : ∀ q, ar w h q = false → K q = 0) (hv : v = 0 ∨ ar w h p = true) : ∀ q, ar w h q = false → kup K p v q = 0 := fun q hq => by
  unfold kup
  by_cases e : q = p
  · rw [if_pos e]
    rcases hv with r | r
    · exact r
    · rw [e, r] at hq; cases hq
  · rw [if_neg e]; exact z q hq
theorem bb_wo {x y : Int64} {M : Nat → Nat} {p : Nat} (hx : bb x = sol M) (hy : bb y = fun q => decide (q = p)) : bb (x &&& (y ^^^ (-1))) = sol (kup M p 0) := funext fun q => by
  rw [bb_minus, hx, hy, sol_up0]
  by_cases e : q = p <;> simp [e]
theorem c_fall (H : HC I L a w h K) {x : Int64} {M : Nat → Nat} (hx : bb x = sol M) (zM : ∀ p, ar w h p = false → M p = 0) : ∃ y, FX3_settled I L a x = some y ∧ bb y = sol (kst h M) ∧ FJ13_bitCount_95d88 I L (x &&& (y ^^^ (-1))) = zI ((fb_ct (sol M) 64 - fb_ct (stl h (sol M)) 64 : Nat) : Int) := by
  obtain ⟨y, e, hy⟩ := c_settled H hx (fun p q => sol_ar zM q)
  refine ⟨y, e, hy.trans (sol_kst h M).symm, ?_⟩
  rw [bc_eq]
  congr 2
  have := ct_minus (P := sol M) (Q := stl h (sol M)) (fun p q => stl_sub q) 64
  have e2 : bb (x &&& (y ^^^ (-1))) = fun p => sol M p && !stl h (sol M) p := funext fun p => by rw [bb_minus, hx, hy]
  rw [e2]
  omega
theorem c_lost (H : HC I L a w h K) {x : Int64} {p : Nat} (hx : bb x = fun q => decide (q = p)) : FX3_lostWithout I L a x = some (zI (los h K p : Nat)) := by
  obtain ⟨y, e, _, h2⟩ := c_fall H (bb_wo (c_sol H) hx) (kup_z H.z (Or.inl rfl))
  unfold FX3_lostWithout
  rw [zlet, e, obind, zlet, h2]
  rfl
/-! safe cuts -/
def saf (w h : Nat) (K : Nat → Nat) (s : Nat) (p : Nat) : Bool := cut w h K s p && decide (los h K p = 0)
theorem los_0 {h : Nat} {K : Nat → Nat} {p : Nat} (h48 : ∀ q, sol K q = true → q < 48) : los h K p = 0 ↔ ∀ q, sol (kup K p 0) q = true → std h (sol (kup K p 0)) q = true := by
  have hs : ∀ q, sol (kup K p 0) q = true → q < 48 := fun q r => by
    rw [sol_up0] at r
    by_cases e : q = p
    · simp [e] at r
    · simp only [if_neg e] at r; exact h48 q r
  constructor
  · intro hl
    have : stl h (sol (kup K p 0)) = sol (kup K p 0) := by
      refine Classical.byContradiction fun hn => ?_
      obtain ⟨q, hq⟩ := set_ne hn
      have h1 : stl h (sol (kup K p 0)) q = false := by
        cases e : stl h (sol (kup K p 0)) q
        · rfl
        · rw [e, stl_sub e] at hq; exact absurd rfl hq
      have h2 : sol (kup K p 0) q = true := by
        cases e : sol (kup K p 0) q
        · rw [h1, e] at hq; exact absurd rfl hq
        · rfl
      have := ct_lt (n := 64) (P := stl h (sol (kup K p 0))) (Q := sol (kup K p 0)) (fun r _ s => stl_sub s) (by have := hs q h2; omega) h2 h1
      unfold los at hl
      omega
    intro q hq
    rw [← this] at hq ⊢
    rw [stl_fix hs]
    exact hq
  · intro hl
    unfold los
    rw [stl_self hl]
    omega
theorem safe_iff {h : Nat} {K : Nat → Nat} {p : Nat} (h48 : ∀ q, sol K q = true → q < 48) (st : ∀ q, sol K q = true → std h (sol K) q = true) (hp : sol K p = true) (hr : p / 8 < h) : los h K p = 0 ↔ ¬ ((p % 8 ≠ 7 ∧ sol K (p + 1) = true ∧ car h (sol K) (p + 1) = false) ∨ (p % 8 ≠ 0 ∧ sol K (p - 1) = true ∧ car h (sol K) (p - 1) = false) ∨ (8 ≤ p ∧ sol K (p - 8) = true ∧ bri (sol K) (p - 8) = false)) := by
  rw [los_0 h48, sol_up0]
  constructor
  · intro hl
    rintro (⟨q1, q2, q3⟩ | ⟨q1, q2, q3⟩ | ⟨q1, q2, q3⟩)
    · have h1 := hl (p + 1) (by simp [q2])
      rw [std_cb, Bool.or_eq_true] at h1
      rcases h1 with h1 | h1
      · have : car h (sol K) (p + 1) = true := by
          simp only [car, Bool.and_eq_true, Bool.or_eq_true, decide_eq_true_eq] at h1 ⊢
          refine ⟨q2, ?_⟩
          rcases h1.2 with r | r
          · exact Or.inl r
          · refine Or.inr ?_
            by_cases e : p + 1 + 8 = p
            · omega
            · simpa [e] using r
        rw [this] at q3; cases q3
      · simp only [bri, Bool.and_eq_true] at h1
        have := h1.2.2
        simp at this
    · have h1 := hl (p - 1) (by have : ¬ p - 1 = p := by omega
                                simp [q2, this])
      rw [std_cb, Bool.or_eq_true] at h1
      rcases h1 with h1 | h1
      · have : car h (sol K) (p - 1) = true := by
          simp only [car, Bool.and_eq_true, Bool.or_eq_true, decide_eq_true_eq] at h1 ⊢
          refine ⟨q2, ?_⟩
          rcases h1.2 with r | r
          · exact Or.inl r
          · refine Or.inr ?_
            by_cases e : p - 1 + 8 = p
            · omega
            · simpa [e] using r
        rw [this] at q3; cases q3
      · simp only [bri, Bool.and_eq_true] at h1
        have := h1.2.1.1.2
        rw [show p - 1 + 1 = p by omega] at this
        simp at this
    · have h1 := hl (p - 8) (by have : ¬ p - 8 = p := by omega
                                simp [q2, this])
      rw [std_cb, Bool.or_eq_true] at h1
      rcases h1 with h1 | h1
      · simp only [car, Bool.and_eq_true, Bool.or_eq_true, decide_eq_true_eq] at h1
        rw [show p - 8 + 8 = p by omega] at h1
        rcases h1.2 with r | r
        · omega
        · simp at r
      · have : bri (sol K) (p - 8) = true := by
          simp only [bri, Bool.and_eq_true, decide_eq_true_eq] at h1 ⊢
          obtain ⟨r1, ⟨⟨r2, r3⟩, r4⟩, r5⟩ := h1
          refine ⟨q2, ⟨⟨r2, ?_⟩, r4⟩, ?_⟩
          · by_cases e : p - 8 + 1 = p
            · omega
            · simpa [e] using r3
          · by_cases e : p - 8 - 1 = p
            · omega
            · simpa [e] using r5
        rw [this] at q3; cases q3
  · intro hn q hq
    have hqp : ¬ q = p := fun e => by simp [e] at hq
    have sq : sol K q = true := by simpa [hqp] using hq
    have h1 := st q sq
    rw [std_cb, Bool.or_eq_true] at h1
    rw [std_cb, Bool.or_eq_true]
    by_cases c1 : car h (fun q => if q = p then false else sol K q) q = true
    · exact Or.inl c1
    · refine Or.inr ?_
      have c2 : bri (sol K) q = true := by
        rcases h1 with r | r
        · simp only [car, Bool.and_eq_true, Bool.or_eq_true, decide_eq_true_eq] at r
          rcases r.2 with r2 | r2
          · exact absurd (by simp [car, hqp, sq, r2]) c1
          · by_cases e : q + 8 = p
            · cases b : bri (sol K) q
              · exact absurd (Or.inr (Or.inr ⟨by omega, by rw [show p - 8 = q by omega]; exact sq, by rw [show p - 8 = q by omega]; exact b⟩)) hn
              · rfl
            · exact absurd (by simp [car, hqp, sq, e, r2]) c1
        · exact r
      have c3 : car h (sol K) q = true → q + 8 = p := fun r => by
        simp only [car, Bool.and_eq_true, Bool.or_eq_true, decide_eq_true_eq] at r
        rcases r.2 with r2 | r2
        · exact absurd (by simp [car, hqp, sq, r2]) c1
        · by_cases e : q + 8 = p
          · exact e
          · exact absurd (by simp [car, hqp, sq, e, r2]) c1
      simp only [bri, Bool.and_eq_true, decide_eq_true_eq] at c2 ⊢
      obtain ⟨r1, ⟨⟨r2, r3⟩, r4⟩, r5⟩ := c2
      refine ⟨by simpa [hqp] using sq, ⟨⟨r2, ?_⟩, r4⟩, ?_⟩
      · by_cases e : q + 1 = p
        · cases c : car h (sol K) q
          · exact absurd (Or.inr (Or.inl ⟨by omega, by rw [show p - 1 = q by omega]; exact sq, by rw [show p - 1 = q by omega]; exact c⟩)) hn
          · have := c3 c; omega
        · simpa [e] using r3
      · by_cases e : q - 1 = p
        · cases c : car h (sol K) q
          · exact absurd (Or.inl ⟨by omega, by rw [show p + 1 = q by omega]; exact sq, by rw [show p + 1 = q by omega]; exact c⟩) hn
          · have := c3 c; omega
        · simpa [e] using r5
theorem c_safe (H : HC I L a w h K) {s : Nat} (hs : s < 2) {x : Int64} {M : Nat → Nat} (hx : bb x = sol M) (hM : sb K M) (zM : ∀ p, ar w h p = false → M p = 0) (st : ∀ q, sol M q = true → std h (sol M) q = true) : ∃ y, FX3_safeFor I L a (zI (s : Int)) x = some y ∧ bb y = saf w h M s := by
  obtain ⟨y, e, hy⟩ := c_cut H hs hx hM zM
  have hSa : ∀ p, sol M p = true → ar w h p = true := fun p q => sol_ar zM q
  refine ⟨_, by unfold FX3_safeFor; simp only [zlet]; rw [e, obind], funext fun p => ?_⟩
  rw [bb_minus, hy]
  unfold saf
  cases q : cut w h M s p
  · rfl
  · have sp : sol M p = true := by
      simp only [cut, Bool.and_eq_true] at q
      rw [sb_sto hM] at q
      simp only [Bool.and_eq_true] at q
      exact q.1.2
    have hp := H.s48 zM sp
    have hr : p / 8 < h := (ar_iff.1 (hSa p sp)).2
    rw [Bool.true_and, Bool.true_and, Bool.eq_iff_iff, decide_eq_true_eq, safe_iff (fun q r => H.s48 zM r) st sp hr]
    unfold FX11_leftOf FX11_rightOf
    simp only [zI_lit]
    rw [bb_or, bb_or, bb_and, bb_and, bb_shr (by omega), bb_shl (by omega), bb_shl (by omega), bb_nright hp, bb_nleft hp, bb_minus, bb_minus, bb_minus, hx, c_car H hx hSa, c_bri H hx hSa]
    simp only [show (1 : Int).toNat = 1 from rfl, show (8 : Int).toNat = 8 from rfl, Nat.add_comm 1 p]
    rw [Bool.not_eq_true', ← Bool.not_eq_true]
    simp only [Bool.or_eq_true, Bool.and_eq_true, Bool.not_eq_true', decide_eq_true_eq, decide_eq_false_iff_not]
    refine not_congr ⟨?_, ?_⟩
    · rintro ((⟨⟨r1, r2⟩, r3⟩ | ⟨⟨r1, r2⟩, r3⟩) | ⟨r1, r2, r3⟩)
      · exact Or.inl ⟨r3, r1, r2⟩
      · exact Or.inr (Or.inl ⟨r3, r2⟩)
      · exact Or.inr (Or.inr ⟨r1.2, r2, r3⟩)
    · rintro (⟨r1, r2, r3⟩ | ⟨r1, r2, r3⟩ | ⟨r1, r2, r3⟩)
      · exact Or.inl (Or.inl ⟨⟨r2, r3⟩, r1⟩)
      · exact Or.inl (Or.inr ⟨⟨⟨by omega, by omega⟩, r2, r3⟩, r1⟩)
      · exact Or.inr ⟨⟨by omega, r1⟩, r2, r3⟩
end PK
