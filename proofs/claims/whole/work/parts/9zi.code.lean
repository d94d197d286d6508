/-! TALKS, CODE: the code by the reference. -/
theorem g36 : tq_rg 136 36 = 152 := by decide +kernel
theorem g37 : tq_rg 136 37 = 153 := by decide +kernel
theorem zI_bit (a : Nat) (i : Nat) (hi : i < 32) : (zI (a : Int)).toBitVec.getLsbD i = a.testBit i := by
  show (BitVec.ofInt 32 (a : Int)).getLsbD i = _
  rw [BitVec.ofInt_natCast, BitVec.getLsbD_ofNat]
  simp [hi]
theorem zI_and (a b : Nat) : zI (a : Int) &&& zI (b : Int) = zI ((a &&& b : Nat) : Int) := by
  apply Int32.toBitVec_inj.1
  apply BitVec.eq_of_getLsbD_eq
  intro i hi
  rw [Int32.toBitVec_and, BitVec.getLsbD_and, zI_bit _ _ hi, zI_bit _ _ hi, zI_bit _ _ hi, Nat.testBit_and]
theorem zI_xor (a b : Nat) : zI (a : Int) ^^^ zI (b : Int) = zI ((a ^^^ b : Nat) : Int) := by
  apply Int32.toBitVec_inj.1
  apply BitVec.eq_of_getLsbD_eq
  intro i hi
  rw [Int32.toBitVec_xor, BitVec.getLsbD_xor, zI_bit _ _ hi, zI_bit _ _ hi, zI_bit _ _ hi, Nat.testBit_xor]
theorem up_up {α : Type} (f : Nat → Nat → α) (a k : Nat) (x y : α) : tq_up2 (tq_up2 f a k x) a k y = tq_up2 f a k y := funext fun b => funext fun j => by
  unfold tq_up2
  split <;> rfl
theorem up_id {α : Type} (f : Nat → Nat → α) (a k : Nat) : tq_up2 f a k (f a k) = f := funext fun b => funext fun j => by
  unfold tq_up2
  split
  · rename_i h; rw [h.1, h.2]
  · rfl
/-- a part and the rest -/
theorem prt {s p : Nat} (h : p &&& s = p) (h0 : p ≠ 0) (h1 : p < s) : s ^^^ p ≠ 0 ∧ s ^^^ p < s ∧ p &&& (s ^^^ p) = 0 ∧ p ||| (s ^^^ p) = s := by
  have hb := and_iff.1 h
  have e1 : (s ^^^ p) &&& s = s ^^^ p := and_iff.2 fun c hc => by
    rw [Nat.testBit_xor] at hc
    cases e : p.testBit c
    · rw [e] at hc; simpa using hc
    · exact hb c e
  have e2 : s ^^^ p ≤ s := by rw [← e1]; exact Nat.and_le_right
  refine ⟨fun e => ?_, Nat.lt_of_le_of_ne e2 (fun e => ?_), ?_, ?_⟩
  · have : s = p := Nat.eq_of_testBit_eq fun c => by
      have h9 := congrArg (fun t => t.testBit c) e
      simp only [Nat.testBit_xor, Nat.zero_testBit] at h9
      cases e3 : p.testBit c <;> cases e4 : s.testBit c <;> rw [e3, e4] at h9 <;> simp at h9 ⊢
    omega
  · apply h0
    apply Nat.eq_of_testBit_eq
    intro c
    have := congrArg (fun t => t.testBit c) e
    simp only [Nat.testBit_xor] at this
    rw [Nat.zero_testBit]
    cases e3 : p.testBit c
    · rfl
    · rw [e3] at this; cases e4 : s.testBit c <;> rw [e4] at this <;> simp at this
  · apply Nat.eq_of_testBit_eq
    intro c
    rw [Nat.testBit_and, Nat.testBit_xor, Nat.zero_testBit]
    cases e3 : p.testBit c
    · rfl
    · rw [hb c e3]; rfl
  · apply Nat.eq_of_testBit_eq
    intro c
    rw [Nat.testBit_or, Nat.testBit_xor]
    cases e3 : p.testBit c
    · simp
    · rw [hb c e3]; rfl
theorem prt_or {a b : Nat} (h : a &&& b = 0) (ha : a ≠ 0) (hb : b ≠ 0) : a &&& (a ||| b) = a ∧ a < a ||| b ∧ (a ||| b) ^^^ a = b := by
  have hd : ∀ c, a.testBit c = true → b.testBit c = false := fun c hc => by
    have := congrArg (fun t => t.testBit c) h
    simp only [Nat.testBit_and, Nat.zero_testBit] at this
    rw [hc] at this
    simpa using this
  have e1 : a &&& (a ||| b) = a := and_iff.2 fun c hc => by rw [Nat.testBit_or, hc]; rfl
  have e3 : (a ||| b) ^^^ a = b := by
    apply Nat.eq_of_testBit_eq
    intro c
    rw [Nat.testBit_xor, Nat.testBit_or]
    cases e : a.testBit c
    · simp
    · rw [hd c e]; rfl
  refine ⟨e1, Nat.lt_of_le_of_ne Nat.left_le_or (fun e => hb ?_), e3⟩
  rw [← e3, ← e, Nat.xor_self]
theorem pw_one : ∀ s : Nat, s < 256 → s ≠ 0 → s &&& (s - 1) = 0 → ∃ x, x < 8 ∧ s = 2 ^ x := by decide +kernel
theorem one_pw : ∀ x : Nat, x < 8 → (2 ^ x) &&& (2 ^ x - 1) = 0 := by decide +kernel
/-- what a cut of a set costs -/
def kct (n : Nat) (f T : Nat → Nat) (s p : Nat) : Nat := T p + T (s ^^^ p) + kw n f p + 2 * kw n f (s ^^^ p)
def KS (n : Nat) (f T : Nat → Nat) (s : Nat) : Prop := (∀ x, x < n → 2 ^ x < s → T (2 ^ x) = 0) ∧ (∀ a b, kv n a → kv n b → a &&& b = 0 → a ||| b < s → T (a ||| b) ≤ T a + T b + kw n f a + 2 * kw n f b) ∧ (∀ t, t < s → kv n t → (∃ x, x < n ∧ t = 2 ^ x) ∨ ∃ a b, kv n a ∧ kv n b ∧ a &&& b = 0 ∧ t = a ||| b ∧ T t = T a + T b + kw n f a + 2 * kw n f b) ∧ ∀ t, t < s → kv n t → T t + 1600 ≤ 1600 * kl n t
theorem KS_KT {n : Nat} {f T : Nat → Nat} (K : KS n f T (2 ^ n)) : KT n f T := by
  obtain ⟨k1, k2, k3, -⟩ := K
  exact ⟨fun x hx => k1 x hx (Nat.pow_lt_pow_right (by omega) hx), fun a b va vb h => k2 a b va vb h (kv_or va vb).1, fun s v => k3 s v.1 v⟩
theorem KS_up {n : Nat} {f T : Nat → Nat} {s v : Nat} (K : KS n f T s) (hf : ∀ x, f x ≤ 99) (n8 : n ≤ 8) (hs : s < 2 ^ n) (h1 : s &&& (s - 1) = 0 → v = 0) (h2 : ∀ t, t &&& s = t → t ≠ 0 → t < s → v ≤ kct n f T s t) (h3 : s &&& (s - 1) ≠ 0 → ∃ t, t &&& s = t ∧ t ≠ 0 ∧ t < s ∧ v = kct n f T s t) : KS n f (fun t => if t = s then v else T t) (s + 1) := by
  obtain ⟨k1, k2, k3, k4⟩ := K
  have s256 : s < 256 := Nat.lt_of_lt_of_le hs (Nat.pow_le_pow_right (by omega) n8 : 2 ^ n ≤ 2 ^ 8)
  refine ⟨fun x hx hs => ?_, fun a b va vb h hl => ?_, fun t ht vt => ?_, fun t ht vt => ?_⟩
  · dsimp only
    by_cases q : 2 ^ x = s
    · rw [if_pos q]
      exact h1 (by rw [← q]; exact one_pw x (by omega))
    · rw [if_neg q]
      exact k1 x hx (by omega)
  · obtain ⟨o1, o2, o3⟩ := prt_or h va.2 vb.2
    obtain ⟨-, p2, -⟩ := prt_or (by rw [Nat.and_comm]; exact h) vb.2 va.2
    rw [Nat.or_comm] at p2
    dsimp only
    rw [if_neg (show ¬ a = s by omega), if_neg (show ¬ b = s by omega)]
    by_cases q : a ||| b = s
    · rw [if_pos q]
      rw [q] at o1 o2 o3
      have := h2 a o1 va.2 o2
      unfold kct at this
      rw [o3] at this
      exact this
    · rw [if_neg q]
      exact k2 a b va vb h (by omega)
  · dsimp only
    by_cases q : t = s
    · subst q
      by_cases g : t &&& (t - 1) = 0
      · obtain ⟨x, x8, e⟩ := pw_one t s256 vt.2 g
        refine Or.inl ⟨x, ?_, e⟩
        rw [e] at hs
        exact (Nat.pow_lt_pow_iff_right (by omega)).1 hs
      · obtain ⟨a, a1, a2, a3, a4⟩ := h3 g
        obtain ⟨r1, r2, r3, r4⟩ := prt a1 a2 a3
        refine Or.inr ⟨a, t ^^^ a, ⟨by omega, a2⟩, ⟨by omega, r1⟩, r3, r4.symm, ?_⟩
        rw [if_pos rfl, if_neg (show ¬ a = t by omega), if_neg (show ¬ t ^^^ a = t by omega)]
        exact a4
    · rcases k3 t (by omega) vt with h | ⟨a, b, va, vb, h, e, g⟩
      · exact Or.inl h
      · obtain ⟨-, p1, -⟩ := prt_or h va.2 vb.2
        obtain ⟨-, p2, -⟩ := prt_or (by rw [Nat.and_comm]; exact h) vb.2 va.2
        rw [Nat.or_comm] at p2
        refine Or.inr ⟨a, b, va, vb, h, e, ?_⟩
        rw [if_neg q, if_neg (show ¬ a = s by omega), if_neg (show ¬ b = s by omega)]
        exact g
  · dsimp only
    by_cases q : t = s
    · subst q
      rw [if_pos rfl]
      by_cases g : t &&& (t - 1) = 0
      · have b7 := kl_pos vt
        rw [h1 g]; omega
      · obtain ⟨a, a1, a2, a3, a4⟩ := h3 g
        obtain ⟨r1, r2, r3, r4⟩ := prt a1 a2 a3
        have va : kv n a := ⟨by omega, a2⟩
        have vb : kv n (t ^^^ a) := ⟨by omega, r1⟩
        have b1 := kw_le (n := n) hf a
        have b2 := kw_le (n := n) hf (t ^^^ a)
        have b3 := kl_or (n := n) r3
        rw [r4] at b3
        have b4 := kl_le n t
        have b5 := k4 a (by omega) va
        have b6 := k4 (t ^^^ a) (by omega) vb
        have b7 := kl_pos va
        have b8 := kl_pos vb
        rw [a4]
        unfold kct
        omega
    · rw [if_neg q]
      exact k4 t (by omega) vt
