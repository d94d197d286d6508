/-! BOOKS: a book taken from another. -/
theorem cpr_s {I : tq_PI} {a b j : Nat} {n : Int32} (h : j < n.toNatClampNeg) : tq_cpr I a b 0 0 n b j = I a j := by
  unfold tq_cpr
  rw [tq_row_s]
  unfold va_cpy
  have e : (0 : Int32).toNatClampNeg = 0 := by decide
  rw [e, if_pos (by omega)]
  congr 1
  omega
theorem cpr_n {I : tq_PI} {a b c : Nat} {n : Int32} (h : c ≠ b) : tq_cpr I a b 0 0 n c = I c := by
  unfold tq_cpr
  rw [tq_row_n h]
theorem up_row {I : tq_PI} {a k c : Nat} {x : Int32} (h : c ≠ a) : tq_up2 I a k x c = I c := funext fun j => by rw [up_n _ _ (by omega)]
theorem e8 : (8 : Int32).toNatClampNeg = 8 := by decide
theorem e40 : (40 : Int32).toNatClampNeg = 40 := by decide
theorem e600 : (600 : Int32).toNatClampNeg = 600 := by decide
theorem c_take4 {I : tq_PI} (L : tq_PL) {a b : Nat} (a1 : tq_rg a 1 = a + 1) (a2 : tq_rg a 2 = a + 2) (b1 : tq_rg b 1 = b + 1) (b2 : tq_rg b 2 = b + 2) (q : b + 3 ≤ a ∨ a + 3 ≤ b) : ∃ J, FX4_take I L b a = some J ∧ J b 0 = I a 0 ∧ (∀ j, j < 8 → J (b + 1) j = I (a + 1) j ∧ J (b + 2) j = I (a + 2) j) ∧ ∀ c, (c < b ∨ b + 3 ≤ c) → J c = I c := by
  refine ⟨tq_cpr (tq_cpr (tq_up2 I b 0 (I a 0)) (a + 1) (b + 1) 0 0 8) (a + 2) (b + 2) 0 0 8, ?_, ?_, fun j hj => ⟨?_, ?_⟩, fun c hc => ?_⟩
  · unfold FX4_take
    rw [if_pos (by decide), if_pos (by decide), a1, a2, b1, b2]
  · rw [cpr_n (by omega), cpr_n (by omega), up_s]
  · rw [cpr_n (by omega), cpr_s (by rw [e8]; exact hj), up_row (by omega)]
  · rw [cpr_s (by rw [e8]; exact hj), cpr_n (by omega), up_row (by omega)]
  · rw [cpr_n (by omega), cpr_n (by omega), up_row (by omega)]
theorem c_take9 {I : tq_PI} (L : tq_PL) {a b : Nat} (a1 : tq_rg a 1 = a + 1) (b1 : tq_rg b 1 = b + 1) (q : b + 2 ≤ a ∨ a + 2 ≤ b) : ∃ J, FX9_take I L b a = some J ∧ J b 0 = I a 0 ∧ (∀ j, j < 8 → J (b + 1) j = I (a + 1) j) ∧ ∀ c, (c < b ∨ b + 2 ≤ c) → J c = I c := by
  refine ⟨tq_cpr (tq_up2 I b 0 (I a 0)) (a + 1) (b + 1) 0 0 8, ?_, ?_, fun j hj => ?_, fun c hc => ?_⟩
  · unfold FX9_take
    rw [if_pos (by decide), a1, b1]
  · rw [cpr_n (by omega), up_s]
  · rw [cpr_s (by rw [e8]; exact hj), up_row (by omega)]
  · rw [cpr_n (by omega), up_row (by omega)]
theorem c_take10 {I : tq_PI} (L : tq_PL) {a b : Nat} (a1 : tq_rg a 1 = a + 1) (a2 : tq_rg a 2 = a + 2) (a3 : tq_rg a 3 = a + 3) (b1 : tq_rg b 1 = b + 1) (b2 : tq_rg b 2 = b + 2) (b3 : tq_rg b 3 = b + 3) (q : b + 4 ≤ a ∨ a + 4 ≤ b) : ∃ J, FX10_take I L b a = some J ∧ J b 0 = I a 0 ∧ (∀ j, j < 40 → J (b + 1) j = I (a + 1) j ∧ J (b + 2) j = I (a + 2) j ∧ J (b + 3) j = I (a + 3) j) ∧ ∀ c, (c < b ∨ b + 4 ≤ c) → J c = I c := by
  refine ⟨tq_cpr (tq_cpr (tq_cpr (tq_up2 I b 0 (I a 0)) (a + 1) (b + 1) 0 0 40) (a + 2) (b + 2) 0 0 40) (a + 3) (b + 3) 0 0 40, ?_, ?_, fun j hj => ⟨?_, ?_, ?_⟩, fun c hc => ?_⟩
  · unfold FX10_take
    rw [if_pos (by decide), if_pos (by decide), if_pos (by decide), a1, a2, a3, b1, b2, b3]
  · rw [cpr_n (by omega), cpr_n (by omega), cpr_n (by omega), up_s]
  · rw [cpr_n (by omega), cpr_n (by omega), cpr_s (by rw [e40]; exact hj), up_row (by omega)]
  · rw [cpr_n (by omega), cpr_s (by rw [e40]; exact hj), cpr_n (by omega), up_row (by omega)]
  · rw [cpr_s (by rw [e40]; exact hj), cpr_n (by omega), cpr_n (by omega), up_row (by omega)]
  · rw [cpr_n (by omega), cpr_n (by omega), cpr_n (by omega), up_row (by omega)]
/-- where the books lie -/
def bas (b : Nat) : Prop := b = 1 ∨ b = 55 ∨ b = 82 ∨ b = 109
theorem bas_rg {b : Nat} (h : bas b) : tq_rg b 0 = b + 1 ∧ tq_rg b 4 = b + 2 ∧ tq_rg b 5 = b + 3 ∧ tq_rg b 6 = b + 4 ∧ tq_rg b 7 = b + 5 ∧ tq_rg b 8 = b + 6 := by
  rcases h with rfl | rfl | rfl | rfl <;> decide +kernel
theorem bas_it {b i : Nat} (h : bas b) (hi : i < 2) : tq_rg (b + 3) i = b + 7 + 10 * i ∧ tq_rg (b + 4) i = b + 8 + 10 * i ∧ tq_rg (b + 5) i = b + 12 + 10 * i ∧ tq_rg (b + 6) i = b + 15 + 10 * i := by
  rcases (by omega : i = 0 ∨ i = 1) with rfl | rfl <;> rcases h with rfl | rfl | rfl | rfl <;> decide +kernel
theorem bas_in {b i : Nat} (h : bas b) (hi : i < 2) : (tq_rg (b + 8 + 10 * i) 1 = b + 8 + 10 * i + 1 ∧ tq_rg (b + 8 + 10 * i) 2 = b + 8 + 10 * i + 2 ∧ tq_rg (b + 8 + 10 * i) 3 = b + 8 + 10 * i + 3) ∧ (tq_rg (b + 12 + 10 * i) 1 = b + 12 + 10 * i + 1 ∧ tq_rg (b + 12 + 10 * i) 2 = b + 12 + 10 * i + 2) ∧ tq_rg (b + 15 + 10 * i) 1 = b + 15 + 10 * i + 1 := by
  rcases (by omega : i = 0 ∨ i = 1) with rfl | rfl <;> rcases h with rfl | rfl | rfl | rfl <;> decide +kernel
