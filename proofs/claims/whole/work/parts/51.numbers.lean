/-! NUMBERS: an int as Int32.ofInt of a whole number; loops; bits of a long. -/
def zI (z : Int) : Int32 := Int32.ofInt z
theorem zI_lit (n : Nat) : (OfNat.ofNat n : Int32) = zI (OfNat.ofNat n : Int) := (Int32.ofInt_eq_ofNat (n := n)).symm
theorem zI_add (a b : Int) : zI a + zI b = zI (a + b) := (Int32.ofInt_add a b).symm
theorem zI_sub (a b : Int) : zI a - zI b = zI (a - b) := (Int32.ofInt_sub a b).symm
theorem zI_mul (a b : Int) : zI a * zI b = zI (a * b) := (Int32.ofInt_mul a b).symm
theorem zI_neg (a : Int) : -zI a = zI (-a) := (Int32.ofInt_neg a).symm
theorem zI_ti {a : Int} (h : -2147483648 ≤ a ∧ a < 2147483648) : (zI a).toInt = a := Int32.toInt_ofInt_of_le (by omega) (by omega)
theorem zI_le {a b : Int} (ha : -2147483648 ≤ a ∧ a < 2147483648) (hb : -2147483648 ≤ b ∧ b < 2147483648) : zI a ≤ zI b ↔ a ≤ b := by
  rw [Int32.le_iff_toInt_le, zI_ti ha, zI_ti hb]
theorem zI_lt {a b : Int} (ha : -2147483648 ≤ a ∧ a < 2147483648) (hb : -2147483648 ≤ b ∧ b < 2147483648) : zI a < zI b ↔ a < b := by
  rw [Int32.lt_iff_toInt_lt, zI_ti ha, zI_ti hb]
theorem zI_eq {a b : Int} (ha : -2147483648 ≤ a ∧ a < 2147483648) (hb : -2147483648 ≤ b ∧ b < 2147483648) : zI a = zI b ↔ a = b := by
  rw [← Int32.toInt_inj, zI_ti ha, zI_ti hb]
theorem zI_cl {a : Int} (h : 0 ≤ a ∧ a < 2147483648) : (zI a).toNatClampNeg = a.toNat := Int32.toNatClampNeg_ofInt_of_le (by omega) (by omega)
theorem zI_div {a b : Int} (ha : 0 ≤ a ∧ a < 2147483648) (hb : 0 < b ∧ b < 2147483648) : zI a / zI b = zI (a / b) := by
  have h1 : zI b ≠ -1 := by
    rw [zI_lit, zI_neg]
    intro h
    rw [zI_eq (by omega) (by omega)] at h
    omega
  have h2 : 0 ≤ a / b := Int.ediv_nonneg ha.1 (by omega)
  have h3 : a / b ≤ a := Int.ediv_le_self b ha.1
  apply Int32.toInt_inj.mp
  rw [Int32.toInt_div_of_ne_right _ _ h1, zI_ti (by omega), zI_ti (by omega), zI_ti (by omega), Int.tdiv_eq_ediv_of_nonneg ha.1]
theorem zI_rem {a b : Int} (ha : 0 ≤ a ∧ a < 2147483648) (hb : 0 < b ∧ b < 2147483648) : zI a - zI a / zI b * zI b = zI (a % b) := by
  rw [zI_div ha hb, zI_mul, zI_sub, Int.emod_def, Int.mul_comm]
theorem zI_of (x : Int32) : ∃ a : Int, (-2147483648 ≤ a ∧ a < 2147483648) ∧ x = zI a := ⟨x.toInt, ⟨by have := fb_rng x; omega, by have := fb_rng x; omega⟩, by rw [zI]; simp⟩
theorem nI_z (n : Nat) : nI n = zI (n : Int) := (Int32.ofInt_eq_ofNat (n := n)).symm
theorem ile_t {a b : Int} (h : a ≤ b) : (a ≤ b) = True := eq_true h
theorem ile_f {a b : Int} (h : b < a) : (a ≤ b) = False := eq_false (by omega)
theorem ilt_t {a b : Int} (h : a < b) : (a < b) = True := eq_true h
theorem ilt_f {a b : Int} (h : b ≤ a) : (a < b) = False := eq_false (by omega)
theorem ieq_t {a b : Int} (h : a = b) : (a = b) = True := eq_true h
theorem ieq_f {a b : Int} (h : a < b ∨ b < a) : (a = b) = False := eq_false (by omega)
theorem zlet {α β : Type} (a : α) (f : α → β) : tq_let a f = f a := rfl
theorem tqb_t : tq_b true = 1 := rfl
theorem tqb_f : tq_b false = 0 := rfl
theorem tqb_0 (b : Bool) : (tq_b b = 0) = (b = false) := by cases b <;> simp [tq_b]
theorem tqb_z (b : Bool) : (tq_b b = zI 0) = (b = false) := tqb_0 b
theorem lgc (x y : Int64) : (lg_cmp x y = 0) = (x = y) := by
  unfold lg_cmp
  by_cases h : x > y
  · rw [if_pos h]
    have : x ≠ y := fun e => by subst e; exact absurd h (Int64.lt_irrefl)
    simp [this]
  · rw [if_neg h]
    by_cases e : x = y <;> simp [e]
theorem lgz (x y : Int64) : (lg_cmp x y = zI 0) = (x = y) := lgc x y
/-! loops -/
theorem it_m {α β : Type} {f : α → Option (α ⊕ β)} {Inv : Nat → α → Prop} {Post : β → Prop} (step : ∀ m a, Inv m a → (∃ a2 m2, f a = some (.inl a2) ∧ m2 < m ∧ Inv m2 a2) ∨ ∃ b, f a = some (.inr b) ∧ Post b) : ∀ (n m : Nat) (a : α), m < n → Inv m a → ∃ b, tq_it f n a = some b ∧ Post b
  | 0, m, a, h, _ => absurd h (Nat.not_lt_zero m)
  | n + 1, m, a, h, hi => by
    rcases step m a hi with ⟨a2, m2, e, hm, hi2⟩ | ⟨b, e, hp⟩
    · obtain ⟨b, e2, hp⟩ := it_m step n m2 a2 (by omega) hi2
      exact ⟨b, by rw [tq_it, e]; exact e2, hp⟩
    · exact ⟨b, by rw [tq_it, e], hp⟩
/-- a loop with a falling measure -/
theorem it_w {α β : Type} {f : α → Option (α ⊕ β)} (Inv : α → Prop) (μ : α → Nat) {Post : β → Prop} (step : ∀ a, Inv a → (∃ a2, f a = some (.inl a2) ∧ μ a2 < μ a ∧ Inv a2) ∨ ∃ b, f a = some (.inr b) ∧ Post b) (a : α) (hm : μ a < 1000000000) (h : Inv a) : ∃ b, tq_it f tq_N a = some b ∧ Post b :=
  it_m (Inv := fun m a => Inv a ∧ μ a = m) (fun m a hi => by
    rcases step a hi.1 with ⟨a2, e, hm, hi2⟩ | hb
    · exact Or.inl ⟨a2, μ a2, e, by rw [← hi.2]; exact hm, hi2, rfl⟩
    · exact Or.inr hb) tq_N (μ a) a (by rw [tq_N_eq]; exact hm) ⟨h, rfl⟩
/-- for (i = i0; i < n; i++) with a state s; it may end early -/
theorem it_for {α β σ : Type} {f : α → Option (α ⊕ β)} (mk : Nat → σ → α) (n : Nat) (P : Nat → σ → Prop) {Post : β → Prop} (step : ∀ i s, i < n → P i s → (∃ s2, f (mk i s) = some (.inl (mk (i + 1) s2)) ∧ P (i + 1) s2) ∨ ∃ b, f (mk i s) = some (.inr b) ∧ Post b) (fin : ∀ s, P n s → ∃ b, f (mk n s) = some (.inr b) ∧ Post b) (i0 : Nat) (s0 : σ) (hi : i0 ≤ n) (hn : n < 1000000000) (h0 : P i0 s0) : ∃ b, tq_it f tq_N (mk i0 s0) = some b ∧ Post b :=
  it_m (Inv := fun m a => ∃ i s, a = mk i s ∧ i ≤ n ∧ m = n - i ∧ P i s) (fun m a hi => by
    obtain ⟨i, s, rfl, h1, h2, h3⟩ := hi
    by_cases q : i < n
    · rcases step i s q h3 with ⟨s2, e, h4⟩ | hb
      · exact Or.inl ⟨_, n - (i + 1), e, by omega, i + 1, s2, rfl, by omega, rfl, h4⟩
      · exact Or.inr hb
    · have : i = n := by omega
      subst this
      exact Or.inr (fin s h3)) tq_N (n - i0) (mk i0 s0) (by rw [tq_N_eq]; omega) ⟨i0, s0, rfl, hi, rfl, h0⟩
/-- the same, its end told by a function of the state -/
theorem it_fold {α β σ : Type} {f : α → Option (α ⊕ β)} (mk : Nat → σ → α) (n : Nat) (P : Nat → σ → Prop) (body : Nat → σ → σ) (out : σ → β) (step : ∀ i s, i < n → P i s → f (mk i s) = some (.inl (mk (i + 1) (body i s))) ∧ P (i + 1) (body i s)) (fin : ∀ s, P n s → f (mk n s) = some (.inr (out s))) (s0 : σ) (hn : n < 1000000000) (h0 : P 0 s0) : tq_it f tq_N (mk 0 s0) = some (out (Nat.fold n (fun i _ s => body i s) s0)) := by
  have key : ∀ j, j ≤ n → P j (Nat.fold j (fun i _ s => body i s) s0) := by
    intro j
    induction j with
    | zero => intro _; exact h0
    | succ j ih => intro hj; rw [Nat.fold_succ]; exact (step j _ (by omega) (ih (by omega))).2
  obtain ⟨b, e, hb⟩ := it_for (f := f) mk n (fun i s => s = Nat.fold i (fun i _ s => body i s) s0) (Post := fun b => b = out (Nat.fold n (fun i _ s => body i s) s0)) (fun i s hi hs => Or.inl ⟨body i s, by subst hs; exact (step i _ hi (key i (by omega))).1, by subst hs; rw [Nat.fold_succ]⟩) (fun s hs => ⟨out s, by subst hs; exact fin _ (key n (Nat.le_refl _)), by rw [hs]⟩) 0 s0 (Nat.zero_le _) hn rfl
  rw [e, hb]
/-- a step until it changes nothing, n times at most -/
def qz_it {α : Type} (g : α → α) : Nat → α → α
  | 0, x => x
  | n + 1, x => qz_it g n (g x)
theorem qz_it_fix {α : Type} {g : α → α} {x : α} (h : g x = x) : ∀ n, qz_it g n x = x
  | 0 => rfl
  | n + 1 => by rw [qz_it, h]; exact qz_it_fix h n
theorem qz_it_succ {α : Type} (g : α → α) : ∀ n x, qz_it g (n + 1) x = g (qz_it g n x)
  | 0, _ => rfl
  | n + 1, x => by rw [qz_it, qz_it_succ g n (g x)]; rfl
theorem it_fix {α β : Type} [DecidableEq α] {f : β → Option (β ⊕ α)} (mk : α → Nat → β) (g : α → α) (N : Nat) (hN : N < 1000000000) (step : ∀ x i, i ≤ N → f (mk x i) = if N ≤ i then some (.inr x) else if g x = x then some (.inr x) else some (.inl (mk (g x) (i + 1)))) (x : α) : tq_it f tq_N (mk x 0) = some (qz_it g N x) := by
  obtain ⟨b, e, hb⟩ := it_for (f := f) (fun i x => mk x i) N (fun i y => y = qz_it g i x) (Post := fun b => b = qz_it g N x) (fun i s hi hs => by
    rw [step s i (by omega), if_neg (by omega)]
    by_cases q : g s = s
    · rw [if_pos q]
      refine Or.inr ⟨s, rfl, ?_⟩
      have e : N = i + (N - i) := by omega
      have k : ∀ m, qz_it g (i + m) x = s := by
        intro m
        induction m with
        | zero => exact hs.symm
        | succ m ih => rw [← Nat.add_assoc, qz_it_succ, ih, q]
      rw [e, k]
    · rw [if_neg q]
      exact Or.inl ⟨g s, rfl, by rw [qz_it_succ, ← hs]⟩) (fun s hs => by
    rw [step s N (Nat.le_refl _), if_pos (Nat.le_refl _)]
    exact ⟨s, rfl, hs⟩) 0 x (Nat.zero_le _) hN rfl
  rw [e, hb]
