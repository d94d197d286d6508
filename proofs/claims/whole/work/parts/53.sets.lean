/-! SETS of places: floods, what stands, what is left. -/
def ar (w h p : Nat) : Bool := decide (p % 8 < w) && decide (p / 8 < h)
theorem ar_iff {w h p : Nat} : ar w h p = true ↔ p % 8 < w ∧ p / 8 < h := by simp [ar]
theorem ar_lt {w h p : Nat} (hh : h ≤ 6) (q : ar w h p = true) : p < 48 := by rw [ar_iff] at q; omega
def nxt (P : Nat → Bool) (p : Nat) : Bool := (decide (p % 8 ≠ 7) && P (p + 1)) || (decide (p % 8 ≠ 0) && P (p - 1)) || (decide (8 ≤ p) && P (p - 8)) || P (p + 8)
def adj (q p : Nat) : Prop := (q = p + 1 ∧ p % 8 ≠ 7) ∨ (p = q + 1 ∧ q % 8 ≠ 7) ∨ q = p + 8 ∨ p = q + 8
theorem adj_symm {q p : Nat} (h : adj q p) : adj p q := by unfold adj at *; omega
theorem nxt_iff {P : Nat → Bool} {p : Nat} : nxt P p = true ↔ ∃ q, P q = true ∧ adj q p := by
  constructor
  · intro h
    simp only [nxt, Bool.or_eq_true, Bool.and_eq_true, decide_eq_true_eq] at h
    rcases h with ((h | h) | h) | h
    · exact ⟨p + 1, h.2, Or.inl ⟨rfl, h.1⟩⟩
    · exact ⟨p - 1, h.2, Or.inr (Or.inl (by have := h.1; omega))⟩
    · exact ⟨p - 8, h.2, Or.inr (Or.inr (Or.inr (by have := h.1; omega)))⟩
    · exact ⟨p + 8, h, Or.inr (Or.inr (Or.inl rfl))⟩
  · rintro ⟨q, h, a⟩
    simp only [nxt, Bool.or_eq_true, Bool.and_eq_true, decide_eq_true_eq]
    rcases a with a | a | a | a
    · exact Or.inl (Or.inl (Or.inl ⟨a.2, by rw [← a.1]; exact h⟩))
    · exact Or.inl (Or.inl (Or.inr ⟨by omega, by rw [show p - 1 = q by omega]; exact h⟩))
    · exact Or.inr (by rw [← a]; exact h)
    · exact Or.inl (Or.inr ⟨by omega, by rw [show p - 8 = q by omega]; exact h⟩)
/-! counts -/
theorem ct_lt {P Q : Nat → Bool} : ∀ {n q : Nat}, (∀ p, p < n → P p = true → Q p = true) → q < n → Q q = true → P q = false → fb_ct P n < fb_ct Q n
  | 0, q, _, hq, _, _ => absurd hq (Nat.not_lt_zero q)
  | n + 1, q, h, hq, hQ, hP => by
    rw [fb_ct_succ, fb_ct_succ]
    by_cases e : q = n
    · subst e
      have := fb_ct_sub (fun k hk => h k (by omega)) (n := q)
      rw [hQ, hP]
      simp
      omega
    · have h1 := ct_lt (n := n) (fun p hp => h p (by omega)) (by omega : q < n) hQ hP
      have h2 := h n (by omega)
      cases hp : P n
      · simp; omega
      · rw [h2 hp]; simp; omega
theorem ct_48 {U : Nat → Bool} (h : ∀ p, U p = true → p < 48) : fb_ct U 64 ≤ 48 := by
  rw [show 64 = 48 + 16 from rfl, fb_ct_split]
  have h1 := fb_ct_le U 48
  have h2 : fb_ct (fun k => U (48 + k)) 16 = 0 := fb_ct_zero.2 fun k _ => by
    cases e : U (48 + k)
    · rfl
    · have := h _ e; omega
  omega
theorem set_ne {P Q : Nat → Bool} (h : P ≠ Q) : ∃ p, P p ≠ Q p := by
  refine Classical.byContradiction fun q => h (funext fun p => ?_)
  exact Classical.byContradiction fun r => q ⟨p, r⟩
theorem set_sub_eq {P Q : Nat → Bool} (h1 : ∀ p, P p = true → Q p = true) (h2 : ∀ p, Q p = true → P p = true) : P = Q := funext fun p => by
  cases e : P p
  · cases e2 : Q p
    · rfl
    · rw [h2 p e2] at e; cases e
  · rw [h1 p e]
theorem it_from {α : Type} {g : α → α} {x : α} {i : Nat} (h : g (qz_it g i x) = qz_it g i x) : ∀ m, qz_it g (i + m) x = qz_it g i x := by
  intro m
  induction m with
  | zero => rfl
  | succ m ih => rw [← Nat.add_assoc, qz_it_succ, ih, h]
theorem grow_fix {g : (Nat → Bool) → Nat → Bool} {X U : Nat → Bool} {N : Nat} (hi : ∀ Y p, Y p = true → g Y p = true) (hU : ∀ Y, (∀ p, Y p = true → U p = true) → ∀ p, g Y p = true → U p = true) (hX : ∀ p, X p = true → U p = true) (h64 : ∀ p, U p = true → p < 64) (hc : fb_ct U 64 ≤ N) (he : g (fun _ => false) = fun _ => false) : g (qz_it g N X) = qz_it g N X := by
  by_cases hz : ∃ p, X p = true
  · refine Classical.byContradiction fun hn => ?_
    have hs : ∀ i, ∀ p, qz_it g i X p = true → U p = true := by
      intro i
      induction i with
      | zero => exact hX
      | succ i ih => rw [qz_it_succ]; exact hU _ ih
    have hk : ∀ i, i ≤ N + 1 → i + 1 ≤ fb_ct (qz_it g i X) 64 := by
      intro i
      induction i with
      | zero =>
        intro _
        obtain ⟨p, hp⟩ := hz
        exact fb_ct_pos.2 ⟨p, h64 p (hX p hp), hp⟩
      | succ i ih =>
        intro hi2
        have h1 := ih (by omega)
        have hne : qz_it g i X ≠ g (qz_it g i X) := fun e => hn (by
          have k := it_from (g := g) (x := X) (i := i) e.symm (N - i)
          rw [show i + (N - i) = N by omega] at k
          rw [k]
          exact e.symm)
        obtain ⟨p, hp⟩ := set_ne hne
        have hA : qz_it g i X p = false := by
          cases e : qz_it g i X p
          · rfl
          · rw [e, hi _ p e] at hp; exact absurd rfl hp
        have hB : g (qz_it g i X) p = true := by
          cases e : g (qz_it g i X) p
          · rw [hA, e] at hp; exact absurd rfl hp
          · rfl
        have h2 := ct_lt (P := qz_it g i X) (Q := g (qz_it g i X)) (fun p _ q => hi _ p q) (h64 p (hU _ (hs i) p hB)) hB hA
        rw [qz_it_succ]
        omega
    have h1 := hk (N + 1) (Nat.le_refl _)
    have h2 := fb_ct_sub (p := qz_it g (N + 1) X) (q := U) (n := 64) (fun p _ q => hs _ p q)
    omega
  · have e : X = fun _ => false := funext fun p => by
      cases q : X p
      · rfl
      · exact absurd ⟨p, q⟩ hz
    rw [e, qz_it_fix he, he]
theorem shrink_fix {g : (Nat → Bool) → Nat → Bool} {X : Nat → Bool} {N : Nat} (hi : ∀ Y p, g Y p = true → Y p = true) (h64 : ∀ p, X p = true → p < 64) (hc : fb_ct X 64 ≤ N) : g (qz_it g N X) = qz_it g N X := by
  refine Classical.byContradiction fun hn => ?_
  have hs : ∀ i, ∀ p, qz_it g i X p = true → X p = true := by
    intro i
    induction i with
    | zero => exact fun p h => h
    | succ i ih => intro p h; rw [qz_it_succ] at h; exact ih p (hi _ p h)
  have hk : ∀ i, i ≤ N + 1 → fb_ct (qz_it g i X) 64 + i ≤ N := by
    intro i
    induction i with
    | zero => intro _; exact hc
    | succ i ih =>
      intro hi2
      have h1 := ih (by omega)
      have hne : g (qz_it g i X) ≠ qz_it g i X := fun e => hn (by
        have k := it_from (g := g) (x := X) (i := i) e (N - i)
        rw [show i + (N - i) = N by omega] at k
        rw [k]
        exact e)
      obtain ⟨p, hp⟩ := set_ne hne
      have hA : g (qz_it g i X) p = false := by
        cases e : g (qz_it g i X) p
        · rfl
        · rw [e, hi _ p e] at hp; exact absurd rfl hp
      have hB : qz_it g i X p = true := by
        cases e : qz_it g i X p
        · rw [hA, e] at hp; exact absurd rfl hp
        · rfl
      have h2 := ct_lt (P := g (qz_it g i X)) (Q := qz_it g i X) (fun p _ q => hi _ p q) (h64 p (hs i p hB)) hB hA
      rw [qz_it_succ]
      omega
  have := hk (N + 1) (Nat.le_refl _)
  omega
/-! floods -/
def gro (O X : Nat → Bool) (p : Nat) : Bool := X p || (nxt X p && O p)
def flo (O X : Nat → Bool) : Nat → Bool := qz_it (gro O) 48 X
theorem gro_iff {O X : Nat → Bool} {p : Nat} : gro O X p = true ↔ X p = true ∨ ((∃ q, X q = true ∧ adj q p) ∧ O p = true) := by
  simp only [gro, Bool.or_eq_true, Bool.and_eq_true, nxt_iff]
theorem flo_in {O X : Nat → Bool} {p : Nat} (h : X p = true) : flo O X p = true := by
  have : ∀ i, qz_it (gro O) i X p = true := by
    intro i
    induction i with
    | zero => exact h
    | succ i ih => rw [qz_it_succ]; exact gro_iff.2 (Or.inl ih)
  exact this 48
theorem flo_least {O X Y : Nat → Bool} (h : ∀ p, X p = true → Y p = true) (hc : ∀ q p, Y q = true → adj q p → O p = true → Y p = true) : ∀ p, flo O X p = true → Y p = true := by
  have : ∀ i, ∀ p, qz_it (gro O) i X p = true → Y p = true := by
    intro i
    induction i with
    | zero => exact h
    | succ i ih =>
      intro p hp
      rw [qz_it_succ] at hp
      rcases gro_iff.1 hp with hp | ⟨⟨q, hq, a⟩, o⟩
      · exact ih p hp
      · exact hc q p (ih q hq) a o
  exact this 48
theorem flo_sub {O X : Nat → Bool} {p : Nat} (h : flo O X p = true) : X p = true ∨ O p = true := by
  have := flo_least (O := O) (X := X) (Y := fun p => X p || O p) (fun p h => by simp [h]) (fun q p _ _ o => by simp [o]) p h
  simpa using this
theorem flo_closed {O X : Nat → Bool} (hX : ∀ p, X p = true → p < 48) (hO : ∀ p, O p = true → p < 48) {q p : Nat} (hq : flo O X q = true) (a : adj q p) (o : O p = true) : flo O X p = true := by
  have k : gro O (qz_it (gro O) 48 X) = qz_it (gro O) 48 X := by
    refine grow_fix (U := fun p => X p || O p) (fun Y p h => gro_iff.2 (Or.inl h)) (fun Y hY p h => ?_) (fun p h => by simp [h]) (fun p h => ?_) (ct_48 fun p h => ?_) (funext fun p => ?_)
    · rcases gro_iff.1 h with h | ⟨_, o⟩
      · exact hY p h
      · simp [o]
    · simp only [Bool.or_eq_true] at h
      rcases h with h | h
      · have := hX p h; omega
      · have := hO p h; omega
    · simp only [Bool.or_eq_true] at h
      rcases h with h | h
      · exact hX p h
      · exact hO p h
    · simp [gro, nxt]
  have : gro O (flo O X) p = true := gro_iff.2 (Or.inr ⟨⟨q, hq, a⟩, o⟩)
  unfold flo at *
  rw [k] at this
  exact this
/-- the one set that has the start, is closed, and is least -/
theorem flo_eq {O X Z : Nat → Bool} (hX : ∀ p, X p = true → p < 48) (hO : ∀ p, O p = true → p < 48) (h1 : ∀ p, X p = true → Z p = true) (h2 : ∀ q p, Z q = true → adj q p → O p = true → Z p = true) (h3 : ∀ Y : Nat → Bool, (∀ p, X p = true → Y p = true) → (∀ q p, Y q = true → adj q p → O p = true → Y p = true) → ∀ p, Z p = true → Y p = true) : Z = flo O X :=
  set_sub_eq (h3 _ (fun _ h => flo_in h) (fun _ _ h a o => flo_closed hX hO h a o)) (flo_least h1 h2)
/-! what stands -/
def std (h : Nat) (S : Nat → Bool) (p : Nat) : Bool := S p && (decide (p / 8 + 1 = h) || S (p + 8) || (decide (p % 8 ≠ 7) && S (p + 1) && decide (p % 8 ≠ 0) && S (p - 1)))
def stl (h : Nat) (S : Nat → Bool) : Nat → Bool := qz_it (std h) 48 S
theorem std_sub {h : Nat} {S : Nat → Bool} {p : Nat} (q : std h S p = true) : S p = true := by
  simp only [std, Bool.and_eq_true] at q
  exact q.1
theorem std_mono {h : Nat} {S T : Nat → Bool} (k : ∀ p, S p = true → T p = true) {p : Nat} (q : std h S p = true) : std h T p = true := by
  simp only [std, Bool.and_eq_true, Bool.or_eq_true, decide_eq_true_eq] at *
  refine ⟨k _ q.1, ?_⟩
  rcases q.2 with (a | a) | a
  · exact Or.inl (Or.inl a)
  · exact Or.inl (Or.inr (k _ a))
  · exact Or.inr ⟨⟨⟨a.1.1.1, k _ a.1.1.2⟩, a.1.2⟩, k _ a.2⟩
theorem stl_sub {h : Nat} {S : Nat → Bool} {p : Nat} (q : stl h S p = true) : S p = true := by
  have : ∀ i, qz_it (std h) i S p = true → S p = true := by
    intro i
    induction i with
    | zero => exact fun x => x
    | succ i ih => intro x; rw [qz_it_succ] at x; exact ih (std_sub x)
  exact this 48 q
theorem stl_fix {h : Nat} {S : Nat → Bool} (hS : ∀ p, S p = true → p < 48) : std h (stl h S) = stl h S :=
  shrink_fix (fun _ _ q => std_sub q) (fun p q => by have := hS p q; omega) (ct_48 hS)
theorem stl_great {h : Nat} {S Y : Nat → Bool} (k : ∀ p, Y p = true → S p = true) (st : ∀ p, Y p = true → std h Y p = true) : ∀ p, Y p = true → stl h S p = true := by
  have : ∀ i, ∀ p, Y p = true → qz_it (std h) i S p = true := by
    intro i
    induction i with
    | zero => exact k
    | succ i ih => intro p hp; rw [qz_it_succ]; exact std_mono ih (st p hp)
  exact this 48
theorem stl_eq {h : Nat} {S Z : Nat → Bool} (hS : ∀ p, S p = true → p < 48) (h1 : ∀ p, Z p = true → S p = true) (h2 : ∀ p, Z p = true → std h Z p = true) (h3 : ∀ p, stl h S p = true → Z p = true) : Z = stl h S :=
  set_sub_eq (stl_great h1 h2) h3
theorem stl_self {h : Nat} {S : Nat → Bool} (k : ∀ p, S p = true → std h S p = true) : stl h S = S := set_sub_eq (fun _ q => stl_sub q) (stl_great (fun _ q => q) k)
