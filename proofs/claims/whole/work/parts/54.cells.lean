/-! CELLS: the c-th cell's place. -/
def pl (w c : Nat) : Nat := 8 * (c / w) + c % w
def wh (w h : Nat) : Prop := 2 ≤ w ∧ w ≤ 8 ∧ 2 ≤ h ∧ h ≤ 6
theorem pl_mod {w h : Nat} (k : wh w h) (c : Nat) : pl w c % 8 = c % w := by
  have : c % w < w := Nat.mod_lt _ (by have := k.1; omega)
  have := k.2.1
  unfold pl
  omega
theorem pl_div {w h : Nat} (k : wh w h) (c : Nat) : pl w c / 8 = c / w := by
  have : c % w < w := Nat.mod_lt _ (by have := k.1; omega)
  have := k.2.1
  unfold pl
  omega
theorem pl_row {w h : Nat} (k : wh w h) {c : Nat} : c < w * h ↔ c / w < h := by
  rw [Nat.div_lt_iff_lt_mul (by have := k.1; omega), Nat.mul_comm]
theorem pl_ar {w h : Nat} (k : wh w h) {c : Nat} (hc : c < w * h) : ar w h (pl w c) = true := by
  rw [ar_iff, pl_mod k, pl_div k]
  exact ⟨Nat.mod_lt _ (by have := k.1; omega), (pl_row k).1 hc⟩
theorem pl_48 {w h : Nat} (k : wh w h) {c : Nat} (hc : c < w * h) : pl w c < 48 := ar_lt k.2.2.2 (pl_ar k hc)
theorem wh_le {w h : Nat} (k : wh w h) : w * h ≤ 48 := Nat.mul_le_mul k.2.1 k.2.2.2
theorem wh_ge {w h : Nat} (k : wh w h) : 4 ≤ w * h := Nat.mul_le_mul k.1 k.2.2.1
theorem wh_2w {w h : Nat} (k : wh w h) : w * 2 ≤ w * h := Nat.mul_le_mul (Nat.le_refl _) k.2.2.1
/-- a cell's number -/
def cl (w p : Nat) : Nat := w * (p / 8) + p % 8
theorem cl_pl {w h : Nat} (k : wh w h) (c : Nat) : cl w (pl w c) = c := by
  unfold cl
  rw [pl_mod k, pl_div k, Nat.div_add_mod]
theorem pl_cl {w h : Nat} (_ : wh w h) {p : Nat} (hp : ar w h p = true) : pl w (cl w p) = p := by
  rw [ar_iff] at hp
  unfold pl cl
  rw [Nat.mul_add_div (by omega), Nat.mul_add_mod, Nat.div_eq_of_lt hp.1, Nat.mod_eq_of_lt hp.1]
  omega
theorem cl_lt {w h : Nat} (k : wh w h) {p : Nat} (hp : ar w h p = true) : cl w p < w * h := by
  rw [pl_row k]
  rw [ar_iff] at hp
  unfold cl
  rw [Nat.mul_add_div (by omega), Nat.div_eq_of_lt hp.1]
  omega
theorem pl_inj {w h : Nat} (k : wh w h) {c d : Nat} (e : pl w c = pl w d) : c = d := by rw [← cl_pl k c, ← cl_pl k d, e]
theorem pl_w {w h : Nat} (k : wh w h) (c : Nat) : pl w (c + w) = pl w c + 8 := by
  unfold pl
  rw [Nat.add_div_right _ (by have := k.1; omega), Nat.add_mod_right]
  omega
theorem pl_s {w h : Nat} (k : wh w h) {c : Nat} (q : c % w + 1 < w) : pl w (c + 1) = pl w c + 1 := by
  have e := Nat.div_add_mod c w
  have e2 : c + 1 = w * (c / w) + (c % w + 1) := by omega
  unfold pl
  rw [e2, Nat.mul_add_div (by omega), Nat.mul_add_mod, Nat.div_eq_of_lt q, Nat.mod_eq_of_lt q]
  omega
theorem pl_e {w h : Nat} (k : wh w h) {c : Nat} (q : c % w + 1 = w) : pl w (c + 1) = 8 * (c / w) + 8 ∧ (c + 1) % w = 0 := by
  have e := Nat.div_add_mod c w
  have e2 : c + 1 = w * (c / w + 1) := by rw [Nat.mul_add]; omega
  unfold pl
  rw [e2, Nat.mul_div_cancel_left _ (by have := k.1; omega), Nat.mul_mod_right]
  omega
theorem pl_p {w h : Nat} (k : wh w h) {c : Nat} (q : 0 < c % w) : pl w (c - 1) = pl w c - 1 ∧ (c - 1) % w = c % w - 1 := by
  have e := Nat.div_add_mod c w
  have hl : c % w < w := Nat.mod_lt _ (by have := k.1; omega)
  have e2 : c - 1 = w * (c / w) + (c % w - 1) := by omega
  unfold pl
  rw [e2, Nat.mul_add_div (by omega), Nat.mul_add_mod, Nat.div_eq_of_lt (show c % w - 1 < w by omega), Nat.mod_eq_of_lt (show c % w - 1 < w by omega)]
  omega
theorem pl_lt {w h : Nat} (k : wh w h) {c d : Nat} (q : c < d) : pl w c < pl w d := by
  have e := Nat.div_add_mod c w
  have e2 := Nat.div_add_mod d w
  have h1 : c / w ≤ d / w := Nat.div_le_div_right (by omega)
  have h2 : c % w < w := Nat.mod_lt _ (by have := k.1; omega)
  have h3 := k.2.1
  unfold pl
  by_cases q2 : c / w = d / w
  · rw [q2] at e ⊢
    omega
  · omega
theorem pl_lt_iff {w h : Nat} (k : wh w h) {c d : Nat} : pl w c < pl w d ↔ c < d := by
  constructor
  · intro q
    rcases Nat.lt_trichotomy c d with r | r | r
    · exact r
    · rw [r] at q; omega
    · have := pl_lt k r; omega
  · exact pl_lt k
/-! sums over the cells -/
theorem sm_gap {f : Nat → Nat} {a b : Nat} (h : a ≤ b) (z : ∀ p, a ≤ p → p < b → f p = 0) : fb_sm f b = fb_sm f a := by
  rw [show b = a + (b - a) by omega, fb_sm_split]
  have : fb_sm (fun k => f (a + k)) (b - a) = fb_sm (fun _ => 0) (b - a) := fb_sm_cong fun k hk => z _ (by omega) (by omega)
  rw [this, fb_sm_const]
  omega
theorem sm_cell {w h : Nat} (k : wh w h) (f : Nat → Nat) (z : ∀ p, ar w h p = false → f p = 0) : ∀ c, c ≤ w * h → fb_sm (fun i => f (pl w i)) c = fb_sm f (pl w c) := by
  intro c
  induction c with
  | zero => intro _; simp [pl]; rfl
  | succ c ih =>
    intro hc
    rw [fb_sm_succ, ih (by omega)]
    by_cases q : c % w + 1 < w
    · rw [pl_s k q, fb_sm_succ]
    · have hl : c % w < w := Nat.mod_lt _ (by have := k.1; omega)
      have e := (pl_e k (c := c) (by omega)).1
      rw [e, sm_gap (a := pl w c + 1) (b := 8 * (c / w) + 8) (by unfold pl; have := k.2.1; omega) (fun p h1 h2 => z p ?_), fb_sm_succ]
      unfold pl at h1
      cases ha : ar w h p
      · rfl
      · rw [ar_iff] at ha
        omega
theorem sm_all {w h : Nat} (k : wh w h) (f : Nat → Nat) (z : ∀ p, ar w h p = false → f p = 0) : fb_sm (fun i => f (pl w i)) (w * h) = fb_sm f 64 := by
  rw [sm_cell k f z _ (Nat.le_refl _)]
  have e : pl w (w * h) = 8 * h := by
    unfold pl
    rw [Nat.mul_div_cancel_left _ (by have := k.1; omega), Nat.mul_mod_right]
    omega
  rw [e]
  refine (sm_gap (by have := k.2.2.2; omega) (fun p h1 h2 => z p ?_)).symm
  cases ha : ar w h p
  · rfl
  · rw [ar_iff] at ha
    omega
theorem ct_sm (P : Nat → Bool) : ∀ n, fb_ct P n = fb_sm (fun p => if P p then 1 else 0) n
  | 0 => rfl
  | n + 1 => by rw [fb_ct_succ, fb_sm_succ, ct_sm P n]
theorem ct_cell {w h : Nat} (k : wh w h) (P : Nat → Bool) (z : ∀ p, P p = true → ar w h p = true) {c : Nat} (hc : c ≤ w * h) : fb_ct (fun i => P (pl w i)) c = fb_ct P (pl w c) := by
  rw [ct_sm, ct_sm]
  refine sm_cell k (fun p => if P p then 1 else 0) (fun p hp => ?_) c hc
  cases e : P p
  · rfl
  · rw [z p e] at hp; cases hp
theorem ct_all {w h : Nat} (k : wh w h) (P : Nat → Bool) (z : ∀ p, P p = true → ar w h p = true) : fb_ct (fun i => P (pl w i)) (w * h) = fb_ct P 64 := by
  rw [ct_sm, ct_sm]
  refine sm_all k (fun p => if P p then 1 else 0) (fun p hp => ?_)
  cases e : P p
  · rfl
  · rw [z p e] at hp; cases hp
/-! the neighbours of a cell -/
def bs (w h c d : Nat) : Int := if d = 0 then (if c < w then -1 else (c : Int) - w) else if d = 1 then (if c % w + 1 = w then -1 else (c : Int) + 1) else if d = 2 then (if c + w < w * h then (c : Int) + w else -1) else (if c % w = 0 then -1 else (c : Int) - 1)
theorem bs_cell {w h : Nat} (k : wh w h) {c : Nat} (hc : c < w * h) (d : Nat) : bs w h c d = -1 ∨ ∃ e : Nat, bs w h c d = e ∧ e < w * h ∧ adj (pl w c) (pl w e) := by
  have hl : c % w < w := Nat.mod_lt _ (by have := k.1; omega)
  have h8 := k.2.1
  have hm := pl_mod k c
  have he := Nat.div_add_mod c w
  unfold bs
  by_cases d0 : d = 0
  · rw [if_pos d0]
    by_cases q : c < w
    · rw [if_pos q]; exact Or.inl rfl
    · rw [if_neg q]
      refine Or.inr ⟨c - w, by omega, by omega, ?_⟩
      have := pl_w k (c - w)
      rw [show c - w + w = c by omega] at this
      exact Or.inr (Or.inr (Or.inl this))
  · rw [if_neg d0]
    by_cases d1 : d = 1
    · rw [if_pos d1]
      by_cases q : c % w + 1 = w
      · rw [if_pos q]; exact Or.inl rfl
      · rw [if_neg q]
        refine Or.inr ⟨c + 1, by omega, ?_, ?_⟩
        · have h1 := (pl_row k (c := c)).1 hc
          rw [pl_row k]
          have e2 : c + 1 = w * (c / w) + (c % w + 1) := by omega
          rw [e2, Nat.mul_add_div (by omega), Nat.div_eq_of_lt (show c % w + 1 < w by omega)]
          exact h1
        · exact Or.inr (Or.inl ⟨pl_s k (by omega), by omega⟩)
    · rw [if_neg d1]
      by_cases d2 : d = 2
      · rw [if_pos d2]
        by_cases q : c + w < w * h
        · rw [if_pos q]
          exact Or.inr ⟨c + w, by omega, q, Or.inr (Or.inr (Or.inr (pl_w k c)))⟩
        · rw [if_neg q]; exact Or.inl rfl
      · rw [if_neg d2]
        by_cases q : c % w = 0
        · rw [if_pos q]; exact Or.inl rfl
        · rw [if_neg q]
          have := (pl_p k (c := c) (by omega)).1
          have h0 : 0 < pl w c := by omega
          exact Or.inr ⟨c - 1, by omega, by omega, Or.inl ⟨by omega, by omega⟩⟩
theorem bs_adj {w h : Nat} (k : wh w h) {c e : Nat} (hc : c < w * h) (he : e < w * h) (a : adj (pl w c) (pl w e)) : ∃ d, d < 4 ∧ bs w h c d = e := by
  have hl : c % w < w := Nat.mod_lt _ (by have := k.1; omega)
  have hl2 : e % w < w := Nat.mod_lt _ (by have := k.1; omega)
  have h8 := k.2.1
  have hm := pl_mod k c
  have hm2 := pl_mod k e
  have hd := Nat.div_add_mod c w
  unfold adj at a
  rcases a with ⟨a, b⟩ | ⟨a, b⟩ | a | a
  · have h1 : e % w + 1 < w := by
      have := pl_mod k c
      omega
    have h2 := pl_s k h1
    have h3 : c = e + 1 := pl_inj k (by omega)
    have h4 : ¬ c % w = 0 := by omega
    refine ⟨3, by omega, ?_⟩
    unfold bs
    simp only [show ¬ (3 : Nat) = 0 by omega, show ¬ (3 : Nat) = 1 by omega, show ¬ (3 : Nat) = 2 by omega, if_false, if_neg h4]
    omega
  · have h1 : c % w + 1 < w := by omega
    have h2 := pl_s k h1
    have h3 : e = c + 1 := pl_inj k (by omega)
    have h4 : ¬ c % w + 1 = w := by omega
    refine ⟨1, by omega, ?_⟩
    unfold bs
    simp only [show ¬ (1 : Nat) = 0 by omega, if_false, if_true, if_neg h4]
    omega
  · have h3 : c = e + w := pl_inj k (by rw [pl_w k]; omega)
    refine ⟨0, by omega, ?_⟩
    unfold bs
    rw [if_pos rfl, if_neg (by omega)]
    omega
  · have h3 : e = c + w := pl_inj k (by rw [pl_w k]; omega)
    refine ⟨2, by omega, ?_⟩
    unfold bs
    simp only [show ¬ (2 : Nat) = 0 by omega, show ¬ (2 : Nat) = 1 by omega, if_false, if_true]
    rw [if_pos (by omega)]
    omega
