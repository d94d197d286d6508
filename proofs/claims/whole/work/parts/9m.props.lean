/-! PROPS: whether a set stands, by the class. -/
noncomputable def sta (h : Nat) (S : Nat → Bool) : Bool := @ite Bool (std h S = S) (Classical.propDecidable _) true false
theorem sta_t {h : Nat} {S : Nat → Bool} (q : std h S = S) : sta h S = true := by unfold sta; exact if_pos q
theorem sta_f {h : Nat} {S : Nat → Bool} (q : ¬ std h S = S) : sta h S = false := by unfold sta; exact if_neg q
theorem sta_iff {h : Nat} {S : Nat → Bool} : sta h S = true ↔ ∀ p, S p = true → std h S p = true := by
  constructor
  · intro e p hp
    by_cases q : std h S = S
    · rw [q]; exact hp
    · rw [sta_f q] at e; cases e
  · intro e
    exact sta_t (set_sub_eq (fun _ q => std_sub q) e)
theorem c_stands {I : tq_PI} {L : tq_PL} {a w h : Nat} {K : Nat → Nat} (H : HC I L a w h K) {x : Int64} {S : Nat → Bool} (hx : bb x = S) (hS : ∀ p, S p = true → ar w h p = true) : FX6_stands I L a x = sta h S := by
  have e := c_std H hx hS
  unfold FX6_stands
  rw [zlet]
  by_cases q : std h S = S
  · have : FX3_standing I L a x = x := bb_inj (by rw [e, hx]; exact q)
    rw [if_pos (by rw [lgc]; exact this), sta_t q]
  · rw [if_neg (by rw [lgc]; intro g; rw [g, hx] at e; exact q e.symm), sta_f q]
