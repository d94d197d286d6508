/-! TALKS, CODE: sets of words, forests by levels. -/
def ss (g : Nat → Nat) : List Nat → Nat
  | [] => 0
  | t :: ts => g t + ss g ts
theorem ss_app (g : Nat → Nat) : ∀ A B, ss g (A ++ B) = ss g A + ss g B
  | [], B => by show ss g B = 0 + ss g B; omega
  | t :: ts, B => by
    show g t + ss g (ts ++ B) = g t + ss g ts + ss g B
    rw [ss_app g ts B]
    omega
theorem sm_add (F G : Nat → Nat) : ∀ n, sm (fun x => F x + G x) n = sm F n + sm G n
  | 0 => rfl
  | n + 1 => by
    show sm (fun x => F x + G x) n + (F n + G n) = sm F n + F n + (sm G n + G n)
    rw [sm_add F G n]
    omega
theorem sm_cong {F G : Nat → Nat} : ∀ n, (∀ x, x < n → F x = G x) → sm F n = sm G n
  | 0, _ => rfl
  | n + 1, h => by
    show sm F n + F n = sm G n + G n
    rw [sm_cong n (fun x hx => h x (by omega)), h n (by omega)]
theorem sm_mono {F G : Nat → Nat} : ∀ n, (∀ x, x < n → F x ≤ G x) → sm F n ≤ sm G n
  | 0, _ => Nat.le_refl _
  | n + 1, h => by
    have a := sm_mono n (fun x hx => h x (by omega))
    have b := h n (by omega)
    show sm F n + F n ≤ sm G n + G n
    omega
theorem smx_mul (c : Nat) (F : Nat → Nat) : ∀ n, sm (fun x => c * F x) n = c * sm F n
  | 0 => rfl
  | n + 1 => by
    show sm (fun x => c * F x) n + c * F n = c * (sm F n + F n)
    rw [smx_mul c F n, Nat.mul_add]
theorem sm_z : ∀ n, sm (fun _ => 0) n = 0
  | 0 => rfl
  | n + 1 => by show sm (fun _ => 0) n + 0 = 0; rw [sm_z n]
theorem sm_at {F : Nat → Nat} {y : Nat} : ∀ n, (∀ x, x < n → x ≠ y → F x = 0) → sm F n = if y < n then F y else 0
  | 0, _ => by rw [if_neg (by omega)]; rfl
  | n + 1, h => by
    have i := sm_at n (fun x hx => h x (by omega))
    show sm F n + F n = _
    rw [i]
    by_cases q : y = n
    · subst q
      rw [if_neg (by omega), if_pos (by omega)]
      omega
    · rw [h n (by omega) (fun g => q g.symm)]
      by_cases q2 : y < n
      · rw [if_pos q2, if_pos (by omega)]; omega
      · rw [if_neg q2, if_neg (by omega)]
theorem sm_swap (F : Nat → Nat → Nat) (m : Nat) : ∀ n, sm (fun i => sm (fun x => F i x) m) n = sm (fun x => sm (fun i => F i x) n) m
  | 0 => by
    show 0 = sm (fun x => 0) m
    rw [sm_z]
  | n + 1 => by
    show sm (fun i => sm (fun x => F i x) m) n + sm (fun x => F n x) m = sm (fun x => sm (fun i => F i x) n + F n x) m
    rw [sm_swap F m n, sm_add]

/-- a set of words as a number: membership, size, weight -/
def kn (x s : Nat) : Nat := if s.testBit x then 1 else 0
def kl (n s : Nat) : Nat := sm (fun x => kn x s) n
def kw (n : Nat) (f : Nat → Nat) (s : Nat) : Nat := sm (fun x => f x * kn x s) n
def kv (n s : Nat) : Prop := s < 2 ^ n ∧ s ≠ 0
theorem kn_or {a b : Nat} (h : a &&& b = 0) (x : Nat) : kn x (a ||| b) = kn x a + kn x b := by
  have e : (a &&& b).testBit x = false := by rw [h, Nat.zero_testBit]
  rw [Nat.testBit_and] at e
  unfold kn
  rw [Nat.testBit_or]
  cases ea : a.testBit x
  · cases eb : b.testBit x <;> simp
  · cases eb : b.testBit x
    · simp
    · rw [ea, eb] at e; cases e
theorem kn_dj {a b : Nat} (h : ∀ x, kn x a + kn x b ≤ 1) : a &&& b = 0 := by
  apply Nat.eq_of_testBit_eq
  intro x
  rw [Nat.testBit_and, Nat.zero_testBit]
  have := h x
  unfold kn at this
  cases ea : a.testBit x
  · rfl
  · cases eb : b.testBit x
    · rfl
    · rw [ea, eb] at this; simp at this
theorem kl_or {n a b : Nat} (h : a &&& b = 0) : kl n (a ||| b) = kl n a + kl n b := by
  unfold kl
  rw [← sm_add]
  exact sm_cong n (fun x _ => kn_or h x)
theorem kw_or {n a b : Nat} {f : Nat → Nat} (h : a &&& b = 0) : kw n f (a ||| b) = kw n f a + kw n f b := by
  unfold kw
  rw [← sm_add]
  exact sm_cong n (fun x _ => by rw [kn_or h x, Nat.mul_add])
theorem sm_ge {F : Nat → Nat} {y : Nat} : ∀ n, y < n → F y ≤ sm F n
  | 0, h => absurd h (Nat.not_lt_zero y)
  | n + 1, h => by
    show F y ≤ sm F n + F n
    by_cases q : y = n
    · subst q; omega
    · have := sm_ge (F := F) n (show y < n by omega); omega
theorem kl_pos {n s : Nat} (v : kv n s) : 1 ≤ kl n s := by
  obtain ⟨x, hx⟩ := Nat.exists_testBit_of_ne_zero v.2
  have xn : x < n := Nat.lt_of_not_le fun g => by rw [tb_big v.1 g] at hx; cases hx
  have := sm_ge (F := fun x => kn x s) n xn
  have e : kn x s = 1 := by unfold kn; rw [hx]; rfl
  unfold kl
  omega
theorem kw_le {n : Nat} {f : Nat → Nat} (hf : ∀ x, f x ≤ 99) (s : Nat) : kw n f s ≤ 99 * kl n s := by
  unfold kw kl
  rw [← smx_mul]
  exact sm_mono n (fun x _ => Nat.mul_le_mul_right _ (hf x))
theorem kl_le (n s : Nat) : kl n s ≤ n := by
  have h := sm_le (G := fun x => kn x s) (c := 1) (fun x => by show kn x s ≤ 1; unfold kn; split <;> omega) n
  unfold kl
  omega
theorem ss_kl {n : Nat} : ∀ A : List Nat, sm (fun x => ss (kn x) A) n = ss (kl n) A
  | [] => sm_z n
  | t :: ts => by
    show sm (fun x => kn x t + ss (kn x) ts) n = kl n t + ss (kl n) ts
    rw [sm_add, ss_kl ts]
    rfl
theorem ss_kw {f : Nat → Nat} {n : Nat} : ∀ A : List Nat, sm (fun x => f x * ss (kn x) A) n = ss (kw n f) A
  | [] => by
    show sm (fun x => f x * 0) n = 0
    exact (sm_cong n (fun x _ => Nat.mul_zero _)).trans (sm_z n)
  | t :: ts => by
    show sm (fun x => f x * (kn x t + ss (kn x) ts)) n = kw n f t + ss (kw n f) ts
    rw [← ss_kw ts]
    show _ = sm (fun x => f x * kn x t) n + _
    rw [← sm_add]
    exact sm_cong n (fun x _ => Nat.mul_add _ _ _)
/-- what the reference's table holds -/
def KT (n : Nat) (f T : Nat → Nat) : Prop := (∀ x, x < n → T (2 ^ x) = 0) ∧ (∀ a b, kv n a → kv n b → a &&& b = 0 → T (a ||| b) ≤ T a + T b + kw n f a + 2 * kw n f b) ∧ ∀ s, kv n s → (∃ x, x < n ∧ s = 2 ^ x) ∨ ∃ a b, kv n a ∧ kv n b ∧ a &&& b = 0 ∧ s = a ||| b ∧ T s = T a + T b + kw n f a + 2 * kw n f b
theorem kl_one {n x : Nat} (h : x < n) : kl n (2 ^ x) = 1 := by
  unfold kl
  rw [sm_at (y := x) n (fun y _ hy => by unfold kn; rw [Nat.testBit_two_pow]; simp; omega), if_pos h]
  unfold kn
  rw [Nat.testBit_two_pow]
  simp
theorem KT_le {n : Nat} {f T : Nat → Nat} (K : KT n f T) (hf : ∀ x, f x ≤ 99) (hn : n ≤ 8) : ∀ m s, kv n s → kl n s ≤ m → T s + 1600 ≤ 1600 * kl n s
  | 0, s, v, h => by have := kl_pos v; omega
  | m + 1, s, v, h => by
    rcases K.2.2 s v with ⟨x, hx, rfl⟩ | ⟨a, b, va, vb, dj, rfl, e⟩
    · rw [K.1 x hx, kl_one hx]
      omega
    · have h1 := kl_or (n := n) dj
      have h2 := kl_pos va
      have h3 := kl_pos vb
      have h4 := KT_le K hf hn m a va (by omega)
      have h5 := KT_le K hf hn m b vb (by omega)
      have h6 := kw_le (n := n) hf a
      have h7 := kw_le (n := n) hf b
      have h8 := kl_le n (a ||| b)
      omega
/-- the class's search, as a function -/
def mn (F : Nat → Nat) : Nat → Nat
  | 0 => 1000000
  | m + 1 => if F m < mn F m then F m else mn F m
theorem mn_le {F : Nat → Nat} : ∀ m, mn F m ≤ 1000000
  | 0 => Nat.le_refl _
  | m + 1 => by
    have := mn_le (F := F) m
    show (if F m < mn F m then F m else mn F m) ≤ _
    split <;> omega
theorem mn_lo {F : Nat → Nat} {k : Nat} : ∀ m, k < m → mn F m ≤ F k
  | 0, h => absurd h (Nat.not_lt_zero k)
  | m + 1, h => by
    show (if F m < mn F m then F m else mn F m) ≤ _
    by_cases q : k = m
    · subst q
      split <;> omega
    · have := mn_lo (F := F) m (show k < m by omega)
      split <;> omega
theorem mn_is {F : Nat → Nat} : ∀ m, mn F m < 1000000 → ∃ k, k < m ∧ mn F m = F k
  | 0, h => absurd h (by show ¬ (1000000 : Nat) < 1000000; omega)
  | m + 1, h => by
    have e : mn F (m + 1) = if F m < mn F m then F m else mn F m := rfl
    rw [e] at h ⊢
    by_cases q : F m < mn F m
    · rw [if_pos q]
      exact ⟨m, by omega, rfl⟩
    · rw [if_neg q] at h ⊢
      obtain ⟨k, h1, h2⟩ := mn_is m h
      exact ⟨k, by omega, h2⟩
def Cq (n : Nat) (rs : Nat → Nat) : Nat → Nat → Nat → Nat → Nat
  | 0, _, _, _ => 1000000
  | r + 1, d, p, q => if n < d + p + q then 1000000 else if p + q = 0 then (if d = n then 0 else 1000000) else mn (fun k => rs (d + k) + Cq n rs r (d + k) (q + (p - k)) (p - k)) (p + 1)
theorem Cq_le {n : Nat} {rs : Nat → Nat} : ∀ r d p q, Cq n rs r d p q ≤ 1000000
  | 0, _, _, _ => Nat.le_refl _
  | r + 1, d, p, q => by
    show (if n < d + p + q then 1000000 else if p + q = 0 then (if d = n then 0 else 1000000) else mn (fun k => rs (d + k) + Cq n rs r (d + k) (q + (p - k)) (p - k)) (p + 1)) ≤ _
    split
    · omega
    · split
      · split <;> omega
      · exact mn_le _

/-- one level of a forest -/
theorem T_lev {n : Nat} {f T : Nat → Nat} (K : KT n f T) (r : Nat) : ∀ A : List Nat, (∀ t, t ∈ A → kv n t ∧ 2 * kl n t ≤ r + 1) → ∃ (k : Nat) (L R : List Nat), A.length = k + L.length ∧ R.length = L.length ∧ ss T A = ss T L + ss T R + ss (kw n f) L + 2 * ss (kw n f) R ∧ ss (kl n) A = k + ss (kl n) L + ss (kl n) R ∧ (∀ x, ss (kn x) L + ss (kn x) R ≤ ss (kn x) A) ∧ (∀ t, t ∈ L → kv n t ∧ 2 * kl n t ≤ r) ∧ ∀ t, t ∈ R → kv n t ∧ 2 * kl n t + 1 ≤ r
  | [], _ => ⟨0, [], [], rfl, rfl, rfl, rfl, fun _ => Nat.le_refl _, fun t h => (by cases h), fun t h => (by cases h)⟩
  | s :: ts, h => by
    obtain ⟨k, L, R, h1, h2, h3, h4, h5, h6, h7⟩ := T_lev K r ts (fun t ht => h t (List.mem_cons_of_mem _ ht))
    have hs := h s (List.mem_cons_self ..)
    have e1 : (s :: ts).length = ts.length + 1 := rfl
    have e2 : ss T (s :: ts) = T s + ss T ts := rfl
    have e3 : ss (kl n) (s :: ts) = kl n s + ss (kl n) ts := rfl
    have e4 : ∀ x, ss (kn x) (s :: ts) = kn x s + ss (kn x) ts := fun x => rfl
    rcases K.2.2 s hs.1 with ⟨x, hx, rfl⟩ | ⟨a, b, va, vb, dj, rfl, e⟩
    · refine ⟨k + 1, L, R, by omega, h2, ?_, ?_, fun y => ?_, h6, h7⟩
      · rw [e2, K.1 x hx]; omega
      · rw [e3, kl_one hx]; omega
      · rw [e4]; have := h5 y; omega
    · have o := kl_or (n := n) dj
      have pa := kl_pos va
      have pb := kl_pos vb
      refine ⟨k, a :: L, b :: R, ?_, ?_, ?_, ?_, fun y => ?_, fun t ht => ?_, fun t ht => ?_⟩
      · show ts.length + 1 = k + (L.length + 1); omega
      · show R.length + 1 = L.length + 1; omega
      · rw [e2, e]
        show _ = (T a + ss T L) + (T b + ss T R) + (kw n f a + ss (kw n f) L) + 2 * (kw n f b + ss (kw n f) R)
        omega
      · rw [e3, o]
        show _ = k + (kl n a + ss (kl n) L) + (kl n b + ss (kl n) R)
        omega
      · rw [e4, kn_or dj]
        have := h5 y
        show kn y a + ss (kn y) L + (kn y b + ss (kn y) R) ≤ _
        omega
      · rcases List.mem_cons.1 ht with rfl | ht
        · exact ⟨va, by omega⟩
        · exact h6 t ht
      · rcases List.mem_cons.1 ht with rfl | ht
        · exact ⟨vb, by omega⟩
        · exact h7 t ht
/-- the search finds no more than any tree costs -/
theorem Cq_lo {n : Nat} {f T rs : Nat → Nat} (K : KT n f T) (hrs : ∀ (c : Nat → Nat) (m : Nat), m ≤ n → (∀ x, c x ≤ 1) → sm c n = n - m → rs m ≤ sm (fun x => f x * c x) n) : ∀ r d (A B : List Nat), 1 ≤ r → (∀ t, t ∈ A → kv n t ∧ 2 * kl n t ≤ r) → (∀ t, t ∈ B → kv n t ∧ 2 * kl n t + 1 ≤ r) → (∀ x, ss (kn x) A + ss (kn x) B ≤ 1) → d + (ss (kl n) A + ss (kl n) B) = n → Cq n rs r d A.length B.length ≤ ss T A + ss T B + ss (kw n f) B
  | 0, _, _, _, h, _, _, _, _ => absurd h (by omega)
  | r + 1, d, A, B, _, hA, hB, hx, hd => by
    have pl : ∀ L : List Nat, (∀ t, t ∈ L → kv n t) → L.length ≤ ss (kl n) L := fun L => by
      induction L with
      | nil => exact fun _ => Nat.le_refl _
      | cons t ts ih =>
        intro v
        have := kl_pos (v t (List.mem_cons_self ..))
        have i := ih (fun u hu => v u (List.mem_cons_of_mem _ hu))
        show ts.length + 1 ≤ kl n t + ss (kl n) ts
        omega
    have a1 := pl A (fun t ht => (hA t ht).1)
    have b1 := pl B (fun t ht => (hB t ht).1)
    show (if n < d + A.length + B.length then 1000000 else if A.length + B.length = 0 then (if d = n then 0 else 1000000) else mn (fun k => rs (d + k) + Cq n rs r (d + k) (B.length + (A.length - k)) (A.length - k)) (A.length + 1)) ≤ _
    rw [if_neg (by omega)]
    by_cases z : A.length + B.length = 0
    · have eA : A = [] := List.eq_nil_of_length_eq_zero (by omega)
      have eB : B = [] := List.eq_nil_of_length_eq_zero (by omega)
      subst eA eB
      have hd' : d + (0 + 0) = n := hd
      rw [if_pos z, if_pos (by omega)]
      exact Nat.zero_le _
    · rw [if_neg z]
      obtain ⟨k, L, R, h1, h2, h3, h4, h5, h6, h7⟩ := T_lev K r A hA
      have r1 : 1 ≤ r := by
        by_cases za : A.length = 0
        · obtain ⟨t, ht⟩ := List.exists_mem_of_length_pos (l := B) (by omega)
          have := hB t ht
          have := kl_pos this.1
          omega
        · obtain ⟨t, ht⟩ := List.exists_mem_of_length_pos (l := A) (by omega)
          have := hA t ht
          have := kl_pos this.1
          omega
      have i := Cq_lo K hrs r (d + k) (B ++ L) R r1 (fun t ht => by
        rcases List.mem_append.1 ht with g | g
        · have := hB t g
          exact ⟨this.1, by omega⟩
        · exact h6 t g) h7 (fun x => by
        have := hx x
        have g := h5 x
        rw [ss_app]
        omega) (by rw [ss_app]; omega)
      rw [List.length_append, ss_app, h2] at i
      have w := hrs (fun x => ss (kn x) (B ++ L ++ R)) (d + k) (by omega) (fun x => by
        have := hx x
        have g := h5 x
        rw [ss_app, ss_app]
        omega) (by rw [ss_kl, ss_app, ss_app]; omega)
      rw [ss_kw, ss_app, ss_app] at w
      have l := mn_lo (F := fun k => rs (d + k) + Cq n rs r (d + k) (B.length + (A.length - k)) (A.length - k)) (k := k) (A.length + 1) (by omega)
      rw [show A.length - k = L.length by omega] at l
      omega
