/-! TALKS, CODE: a forest of the search's cost; ranks. -/
theorem kw_one {n x : Nat} {f : Nat → Nat} (h : x < n) : kw n f (2 ^ x) = f x := by
  unfold kw
  rw [sm_at (y := x) n (fun y _ hy => by unfold kn; rw [Nat.testBit_two_pow, decide_eq_false (fun g => hy g.symm)]; simp), if_pos h]
  unfold kn
  rw [Nat.testBit_two_pow]
  simp
theorem kv_one {n x : Nat} (h : x < n) : kv n (2 ^ x) := ⟨Nat.pow_lt_pow_right (by omega) h, Nat.ne_of_gt (Nat.two_pow_pos x)⟩
theorem kv_or {n a b : Nat} (va : kv n a) (vb : kv n b) : kv n (a ||| b) := by
  refine ⟨Nat.or_lt_two_pow va.1 vb.1, fun e => va.2 ?_⟩
  have := Nat.left_le_or (n := a) (m := b)
  omega
theorem T_zip {n : Nat} {f T : Nat → Nat} (K : KT n f T) : ∀ A B : List Nat, A.length = B.length → (∀ t, t ∈ A → kv n t) → (∀ t, t ∈ B → kv n t) → (∀ x, ss (kn x) A + ss (kn x) B ≤ 1) → ∃ Z : List Nat, Z.length = A.length ∧ (∀ t, t ∈ Z → kv n t) ∧ (∀ x, ss (kn x) Z = ss (kn x) A + ss (kn x) B) ∧ ss (kw n f) Z = ss (kw n f) A + ss (kw n f) B ∧ ss T Z ≤ ss T A + ss T B + ss (kw n f) A + 2 * ss (kw n f) B
  | [], [], _, _, _, _ => ⟨[], rfl, fun t h => (by cases h), fun _ => rfl, rfl, Nat.le_refl _⟩
  | [], _ :: _, e, _, _, _ => by cases e
  | _ :: _, [], e, _, _, _ => by cases e
  | a :: A, b :: B, e, hA, hB, hx => by
    have ex : ∀ x, ss (kn x) (a :: A) = kn x a + ss (kn x) A := fun x => rfl
    have ey : ∀ x, ss (kn x) (b :: B) = kn x b + ss (kn x) B := fun x => rfl
    have l : A.length = B.length := by
      have e' : A.length + 1 = B.length + 1 := e
      omega
    obtain ⟨Z, h1, h2, h3, h4, h5⟩ := T_zip K A B l (fun t ht => hA t (List.mem_cons_of_mem _ ht)) (fun t ht => hB t (List.mem_cons_of_mem _ ht)) (fun x => by
      have := hx x
      rw [ex, ey] at this
      omega)
    have va := hA a (List.mem_cons_self ..)
    have vb := hB b (List.mem_cons_self ..)
    have dj : a &&& b = 0 := kn_dj fun x => by
      have := hx x
      rw [ex, ey] at this
      omega
    have kt := K.2.1 a b va vb dj
    refine ⟨(a ||| b) :: Z, ?_, fun t ht => ?_, fun x => ?_, ?_, ?_⟩
    · show Z.length + 1 = A.length + 1
      omega
    · rcases List.mem_cons.1 ht with rfl | ht
      · exact kv_or va vb
      · exact h2 t ht
    · rw [ex, ey]
      show kn x (a ||| b) + ss (kn x) Z = _
      rw [kn_or dj, h3]
      omega
    · show kw n f (a ||| b) + ss (kw n f) Z = (kw n f a + ss (kw n f) A) + (kw n f b + ss (kw n f) B)
      rw [kw_or dj, h4]
      omega
    · show T (a ||| b) + ss T Z ≤ (T a + ss T A) + (T b + ss T B) + (kw n f a + ss (kw n f) A) + 2 * (kw n f b + ss (kw n f) B)
      omega
/-- ranks: place rk of a word among all, and back -/
def RK (n : Nat) (rk wd : Nat → Nat) : Prop := (∀ i, i < n → wd i < n ∧ rk (wd i) = i) ∧ (∀ x, x < n → rk x < n ∧ wd (rk x) = x)
def lfs (wd : Nat → Nat) : Nat → Nat → List Nat
  | _, 0 => []
  | d, k + 1 => 2 ^ (wd d) :: lfs wd (d + 1) k
def inx (n : Nat) (rk : Nat → Nat) (d x : Nat) : Nat := if x < n ∧ d ≤ rk x then 1 else 0
theorem lfs_all {n : Nat} {f T rk wd rs : Nat → Nat} (K : KT n f T) (Q : RK n rk wd) (hs : ∀ d, d < n → rs d = f (wd d) + rs (d + 1)) : ∀ k d, d + k ≤ n → (lfs wd d k).length = k ∧ (∀ t, t ∈ lfs wd d k → kv n t) ∧ (∀ x, ss (kn x) (lfs wd d k) + inx n rk (d + k) x = inx n rk d x) ∧ ss (kw n f) (lfs wd d k) + rs (d + k) = rs d ∧ ss T (lfs wd d k) = 0
  | 0, d, _ => ⟨rfl, fun t h => (by cases h), fun x => Nat.zero_add _, Nat.zero_add _, rfl⟩
  | k + 1, d, h => by
    obtain ⟨h1, h2, h3, h4, h5⟩ := lfs_all K Q hs k (d + 1) (by omega)
    obtain ⟨q1, q2⟩ := Q.1 d (by omega)
    rw [show d + 1 + k = d + (k + 1) by omega] at h3 h4
    refine ⟨?_, fun t ht => ?_, fun x => ?_, ?_, ?_⟩
    · show (lfs wd (d + 1) k).length + 1 = k + 1
      omega
    · rcases List.mem_cons.1 ht with rfl | ht
      · exact kv_one q1
      · exact h2 t ht
    · show kn x (2 ^ wd d) + ss (kn x) (lfs wd (d + 1) k) + inx n rk (d + (k + 1)) x = inx n rk d x
      have := h3 x
      have e : kn x (2 ^ wd d) + inx n rk (d + 1) x = inx n rk d x := by
        unfold kn inx
        rw [Nat.testBit_two_pow]
        by_cases g : wd d = x
        · subst g
          rw [q2]
          simp [q1]
        · have g2 : x < n → rk x ≠ d := fun hx c => g (by rw [← c]; exact (Q.2 x hx).2)
          by_cases hx : x < n
          · have := g2 hx
            simp [g, hx]
            by_cases g3 : d ≤ rk x
            · rw [if_pos (by omega), if_pos g3]
            · rw [if_neg (by omega), if_neg g3]
          · simp [g, hx]
      omega
    · show kw n f (2 ^ wd d) + ss (kw n f) (lfs wd (d + 1) k) + rs (d + (k + 1)) = rs d
      rw [kw_one q1, hs d (by omega)]
      omega
    · show T (2 ^ wd d) + ss T (lfs wd (d + 1) k) = 0
      rw [K.1 _ q1, h5]
theorem Cq_ok {n : Nat} {rs : Nat → Nat} : ∀ r d p q, Cq n rs r d p q < 1000000 → d + p + q ≤ n
  | 0, _, _, _, h => absurd h (by show ¬ (1000000 : Nat) < 1000000; omega)
  | r + 1, d, p, q, h => by
    have e : Cq n rs (r + 1) d p q = if n < d + p + q then 1000000 else if p + q = 0 then (if d = n then 0 else 1000000) else mn (fun k => rs (d + k) + Cq n rs r (d + k) (q + (p - k)) (p - k)) (p + 1) := rfl
    rw [e] at h
    by_cases g : n < d + p + q
    · rw [if_pos g] at h; omega
    · omega
theorem Cq_hi {n : Nat} {f T rk wd rs : Nat → Nat} (K : KT n f T) (Q : RK n rk wd) (hs : ∀ d, d < n → rs d = f (wd d) + rs (d + 1)) (h0 : rs n = 0) : ∀ r d p q, Cq n rs r d p q < 1000000 → ∃ A B : List Nat, A.length = p ∧ B.length = q ∧ (∀ t, t ∈ A → kv n t) ∧ (∀ t, t ∈ B → kv n t) ∧ (∀ x, ss (kn x) A + ss (kn x) B = inx n rk d x) ∧ ss (kw n f) A + ss (kw n f) B = rs d ∧ ss T A + ss T B + ss (kw n f) B ≤ Cq n rs r d p q
  | 0, _, _, _, h => absurd h (by show ¬ (1000000 : Nat) < 1000000; omega)
  | r + 1, d, p, q, h => by
    have ok := Cq_ok _ _ _ _ h
    have e : Cq n rs (r + 1) d p q = if n < d + p + q then 1000000 else if p + q = 0 then (if d = n then 0 else 1000000) else mn (fun k => rs (d + k) + Cq n rs r (d + k) (q + (p - k)) (p - k)) (p + 1) := rfl
    rw [e, if_neg (by omega)] at h
    rw [e, if_neg (by omega)]
    by_cases z : p + q = 0
    · rw [if_pos z] at h ⊢
      have dn : d = n := by
        by_cases g : d = n
        · exact g
        · rw [if_neg g] at h; omega
      subst dn
      refine ⟨[], [], by show 0 = p; omega, by show 0 = q; omega, fun t h => (by cases h), fun t h => (by cases h), fun x => ?_, h0.symm, Nat.zero_le _⟩
      show 0 + 0 = inx d rk d x
      unfold inx
      rw [if_neg]
      intro g
      have := (Q.2 x g.1).1
      omega
    · rw [if_neg z] at h ⊢
      obtain ⟨k, hk, em⟩ := mn_is _ h
      rw [em] at h ⊢
      have ok2 := Cq_ok (n := n) (rs := rs) r (d + k) (q + (p - k)) (p - k) (by omega)
      obtain ⟨A, B, a1, b1, vA, vB, hx, hw, hT⟩ := Cq_hi K Q hs h0 r (d + k) (q + (p - k)) (p - k) (by omega)
      obtain ⟨A1, A2, rfl, l1, l2⟩ : ∃ A1 A2, A = A1 ++ A2 ∧ A1.length = q ∧ A2.length = p - k := ⟨A.take q, A.drop q, (List.take_append_drop q A).symm, by rw [List.length_take]; omega, by rw [List.length_drop]; omega⟩
      have sx : ∀ x, inx n rk (d + k) x ≤ 1 := fun x => by unfold inx; split <;> omega
      obtain ⟨Z, z1, z2, z3, z4, z5⟩ := T_zip K A2 B (by omega) (fun t ht => vA t (List.mem_append.2 (Or.inr ht))) vB (fun x => by
        have := hx x
        have := sx x
        rw [ss_app] at *
        omega)
      obtain ⟨f1, f2, f3, f4, f5⟩ := lfs_all K Q hs k d (by omega)
      refine ⟨lfs wd d k ++ Z, A1, by rw [List.length_append]; omega, l1, fun t ht => ?_, fun t ht => vA t (List.mem_append.2 (Or.inl ht)), fun x => ?_, ?_, ?_⟩
      · rcases List.mem_append.1 ht with g | g
        · exact f2 t g
        · exact z2 t g
      · have h1 := hx x
        have h2 := z3 x
        have h3 := f3 x
        rw [ss_app] at h1 ⊢
        omega
      · rw [ss_app] at hw ⊢
        omega
      · rw [ss_app] at hw hT ⊢
        omega
theorem RK_of {n : Nat} {rk : Nat → Nat} (h1 : ∀ x, x < n → rk x < n) (h2 : ∀ x y, x < n → y < n → rk x = rk y → x = y) : ∃ wd, RK n rk wd := by
  have inner : ∀ i, sm (fun x => if rk x = i then 1 else 0) n ≤ 1 := fun i => by
    by_cases q : ∃ x, x < n ∧ rk x = i
    · obtain ⟨x, hx, e⟩ := q
      rw [sm_at (y := x) n (fun y hy ne => if_neg (fun g => ne (h2 y x hy hx (by rw [g, e])))), if_pos hx]
      split <;> omega
    · rw [sm_cong (G := fun _ => 0) n (fun x hx => if_neg (fun g => q ⟨x, hx, g⟩)), sm_z]
      omega
  have tot : sm (fun i => sm (fun x => if rk x = i then 1 else 0) n) n = n := by
    rw [sm_swap]
    have e : sm (fun x => sm (fun i => if rk x = i then 1 else 0) n) n = sm (fun _ => 1) n := sm_cong n (fun x hx => by
      rw [sm_at (y := rk x) n (fun i _ ne => if_neg (fun g => ne g.symm)), if_pos (h1 x hx), if_pos rfl])
    rw [e]
    clear e inner h1 h2
    induction n with
    | zero => rfl
    | succ m ih => show sm (fun _ => 1) m + 1 = m + 1; rw [ih]
  have each : ∀ m, m ≤ n → sm (fun i => sm (fun x => if rk x = i then 1 else 0) n) n ≤ sm (fun i => sm (fun x => if rk x = i then 1 else 0) n) m + (n - m) := fun m hm => by
    obtain ⟨d, rfl⟩ : ∃ d, n = m + d := ⟨n - m, by omega⟩
    generalize hF : (fun i => sm (fun x => if rk x = i then 1 else 0) (m + d)) = F at *
    have hF1 : ∀ i, F i ≤ 1 := fun i => by rw [← hF]; exact inner i
    have : ∀ d, sm F (m + d) ≤ sm F m + d := fun d => by
      induction d with
      | zero => exact Nat.le_refl _
      | succ d ih =>
        have := hF1 (m + d)
        show sm F (m + d) + F (m + d) ≤ _
        omega
    have := this d
    omega
  have low : ∀ m, m ≤ n → sm (fun i => sm (fun x => if rk x = i then 1 else 0) n) m ≤ m := fun m _ => by
    have := sm_le (G := fun i => sm (fun x => if rk x = i then 1 else 0) n) (c := 1) inner m
    omega
  have sur : ∀ i, i < n → ∃ x, x < n ∧ rk x = i := fun i hi => by
    refine Classical.byContradiction fun no => ?_
    have z : sm (fun x => if rk x = i then 1 else 0) n = 0 := by
      rw [sm_cong (G := fun _ => 0) n (fun x hx => if_neg (fun g => no ⟨x, hx, g⟩)), sm_z]
    have a := each (i + 1) (by omega)
    have b := low i (by omega)
    have c : sm (fun i => sm (fun x => if rk x = i then 1 else 0) n) (i + 1) = sm (fun i => sm (fun x => if rk x = i then 1 else 0) n) i + sm (fun x => if rk x = i then 1 else 0) n := rfl
    omega
  have ch : ∀ i, ∃ x, i < n → x < n ∧ rk x = i := fun i => by
    by_cases hi : i < n
    · obtain ⟨x, hx⟩ := sur i hi
      exact ⟨x, fun _ => hx⟩
    · exact ⟨0, fun g => absurd g hi⟩
  refine ⟨fun i => Classical.choose (ch i), fun i hi => Classical.choose_spec (ch i) hi, fun x hx => ⟨h1 x hx, ?_⟩⟩
  have := Classical.choose_spec (ch (rk x)) (h1 x hx)
  exact h2 _ _ this.1 hx this.2
