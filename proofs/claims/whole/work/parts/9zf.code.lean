/-! TALKS, CODE: what is left, by ranks; the search and the table agree. -/
def rsq (n : Nat) (f wd : Nat → Nat) (d : Nat) : Nat := sm (fun i => if d ≤ i then f (wd i) else 0) n
theorem rsq_end (n : Nat) (f wd : Nat → Nat) : rsq n f wd n = 0 := by
  unfold rsq
  rw [sm_cong (G := fun _ => 0) n (fun i hi => if_neg (by omega)), sm_z]
theorem rsq_step {n : Nat} {f wd : Nat → Nat} {d : Nat} (h : d < n) : rsq n f wd d = f (wd d) + rsq n f wd (d + 1) := by
  unfold rsq
  have e : sm (fun i => if d ≤ i then f (wd i) else 0) n = sm (fun i => (if i = d then f (wd i) else 0) + (if d + 1 ≤ i then f (wd i) else 0)) n := sm_cong n (fun i _ => by
    by_cases q : i = d
    · rw [if_pos (by omega), if_pos q, if_neg (by omega)]; omega
    · by_cases q2 : d ≤ i
      · rw [if_pos q2, if_neg q, if_pos (by omega)]; omega
      · rw [if_neg q2, if_neg q, if_neg (by omega)])
  rw [e, sm_add, sm_at (y := d) n (fun i _ hi => if_neg hi), if_pos h, if_pos rfl]
/-- a sum over places is a sum over words -/
theorem rk_sum {n : Nat} {rk wd : Nat → Nat} (Q : RK n rk wd) (F : Nat → Nat) : sm (fun i => F (wd i)) n = sm F n := by
  have e1 : sm (fun i => F (wd i)) n = sm (fun i => sm (fun x => if rk x = i then F x else 0) n) n := sm_cong n (fun i hi => by
    obtain ⟨q1, q2⟩ := Q.1 i hi
    rw [sm_at (y := wd i) n (fun x hx hn => if_neg (fun g => hn (by rw [← g]; exact (Q.2 x hx).2.symm))), if_pos q1, if_pos q2])
  rw [e1, sm_swap]
  exact sm_cong n (fun x hx => by
    rw [sm_at (y := rk x) n (fun i _ hi => if_neg (fun g => hi g.symm)), if_pos (Q.2 x hx).1, if_pos rfl])
theorem sm_1 : ∀ n m, m ≤ n → sm (fun i => if m ≤ i then 1 else 0) n = n - m
  | 0, m, h => by
    show 0 = 0 - m
    omega
  | n + 1, m, h => by
    show sm (fun i => if m ≤ i then 1 else 0) n + (if m ≤ n then 1 else 0) = n + 1 - m
    by_cases q : m ≤ n
    · rw [sm_1 n m q, if_pos q]
      omega
    · rw [if_neg q, sm_cong (G := fun _ => 0) n (fun i hi => if_neg (by omega)), sm_z]
      omega
theorem rsq_lo {n : Nat} {f rk wd : Nat → Nat} (Q : RK n rk wd) (ho : ∀ x y, x < n → y < n → rk x ≤ rk y → f y ≤ f x) (c : Nat → Nat) (m : Nat) (hm : m ≤ n) (hc : ∀ x, c x ≤ 1) (hs : sm c n = n - m) : rsq n f wd m ≤ sm (fun x => f x * c x) n := by
  by_cases q : m = n
  · rw [q, rsq_end]
    exact Nat.zero_le _
  · obtain ⟨z1, z2⟩ := Q.1 m (by omega)
    have e1 : rsq n f wd m = sm (fun x => if m ≤ rk x then f x else 0) n := by
      rw [← rk_sum Q]
      exact sm_cong n (fun i hi => by rw [(Q.1 i hi).2])
    have e2 : sm (fun x => if m ≤ rk x then 1 else 0) n = n - m := by
      rw [← rk_sum Q, ← sm_1 n m hm]
      exact sm_cong n (fun i hi => by rw [(Q.1 i hi).2])
    have h := sm_mono (F := fun x => (if m ≤ rk x then f x else 0) + f (wd m) * c x) (G := fun x => f x * c x + f (wd m) * (if m ≤ rk x then 1 else 0)) n (fun x hx => by
      have c1 := hc x
      by_cases g : m ≤ rk x
      · have o := ho (wd m) x z1 hx (by rw [z2]; exact g)
        rw [if_pos g, if_pos g]
        rcases (by omega : c x = 0 ∨ c x = 1) with e | e
        · rw [e]; omega
        · rw [e]; omega
      · have o := ho x (wd m) hx z1 (by rw [z2]; omega)
        rw [if_neg g, if_neg g]
        rcases (by omega : c x = 0 ∨ c x = 1) with e | e
        · rw [e]; omega
        · rw [e]; omega)
    rw [sm_add, sm_add, smx_mul, smx_mul, hs, e2, ← e1] at h
    omega
theorem kn_tb {x a b : Nat} (h : kn x a = kn x b) : a.testBit x = b.testBit x := by
  unfold kn at h
  cases ea : a.testBit x
  · cases eb : b.testBit x
    · rfl
    · rw [ea, eb] at h; simp at h
  · cases eb : b.testBit x
    · rw [ea, eb] at h; simp at h
    · rfl
theorem Cq_is {n : Nat} {f T rk wd : Nat → Nat} (K : KT n f T) (Q : RK n rk wd) (ho : ∀ x y, x < n → y < n → rk x ≤ rk y → f y ≤ f x) (hf : ∀ x, f x ≤ 99) (hn : 1 ≤ n ∧ n ≤ 8) : Cq n (rsq n f wd) 17 0 1 0 = T (2 ^ n - 1) := by
  have p2 : 2 ^ 1 ≤ 2 ^ n := Nat.pow_le_pow_right (by omega) hn.1
  have v : kv n (2 ^ n - 1) := ⟨by omega, by omega⟩
  have knb : ∀ x, kn x (2 ^ n - 1) = if x < n then 1 else 0 := fun x => by
    unfold kn
    rw [Nat.testBit_two_pow_sub_one]
    by_cases g : x < n
    · simp [g]
    · simp [g]
  have kln : kl n (2 ^ n - 1) = n := by
    unfold kl
    rw [sm_cong (G := fun i => if 0 ≤ i then 1 else 0) n (fun x hx => by rw [knb, if_pos hx, if_pos (by omega)]), sm_1 n 0 (by omega)]
    omega
  have b := KT_le K hf hn.2 n (2 ^ n - 1) v (by omega)
  have lo := Cq_lo K (rsq_lo Q ho) 17 0 [2 ^ n - 1] [] (by omega) (fun t ht => by
    rw [List.mem_singleton] at ht
    subst ht
    exact ⟨v, by omega⟩) (fun t h => (by cases h)) (fun x => by
    show kn x (2 ^ n - 1) + 0 + 0 ≤ 1
    rw [knb]
    split <;> omega) (by
    show 0 + (kl n (2 ^ n - 1) + 0 + 0) = n
    omega)
  have lo' : Cq n (rsq n f wd) 17 0 1 0 ≤ T (2 ^ n - 1) + 0 + 0 + 0 := lo
  obtain ⟨A, B, a1, b1, vA, vB, hx, hw, hT⟩ := Cq_hi (rs := rsq n f wd) K Q (fun d hd => rsq_step hd) (rsq_end n f wd) 17 0 1 0 (by omega)
  have eB : B = [] := List.eq_nil_of_length_eq_zero b1
  subst eB
  obtain ⟨s, rfl⟩ := List.length_eq_one_iff.1 a1
  have es : s = 2 ^ n - 1 := by
    apply Nat.eq_of_testBit_eq
    intro x
    have h1 : kn x s + 0 + 0 = inx n rk 0 x := hx x
    have h2 := knb x
    have h3 : inx n rk 0 x = if x < n then 1 else 0 := by
      unfold inx
      by_cases g : x < n
      · rw [if_pos ⟨g, Nat.zero_le _⟩, if_pos g]
      · rw [if_neg (fun c => g c.1), if_neg g]
    exact kn_tb (by omega)
  subst es
  have hT' : T (2 ^ n - 1) + 0 + 0 + 0 ≤ Cq n (rsq n f wd) 17 0 1 0 := hT
  omega
