/-! BOOKS: a book taken from another, in the end. -/
theorem CE.src {I J J2 : tq_PI} {L M M2 : tq_PL} {s d i : Nat} (C : CE J M J2 M2 s d i) (hi : i < 2) (hJ : ∀ c, s ≤ c → c < s + 27 → J c = I c) (hM : ∀ c, s ≤ c → c < s + 27 → M c = L c) : CE I L J2 M2 s d i := by
  unfold CE at *
  rw [hJ (s + 7 + 10 * i) (by omega) (by omega), hM (s + 7 + 10 * i) (by omega) (by omega), hJ (s + 8 + 10 * i) (by omega) (by omega), hJ (s + 8 + 10 * i + 1) (by omega) (by omega), hJ (s + 8 + 10 * i + 2) (by omega) (by omega), hJ (s + 8 + 10 * i + 3) (by omega) (by omega), hJ (s + 12 + 10 * i) (by omega) (by omega), hJ (s + 12 + 10 * i + 1) (by omega) (by omega), hJ (s + 12 + 10 * i + 2) (by omega) (by omega), hJ (s + 15 + 10 * i) (by omega) (by omega), hJ (s + 15 + 10 * i + 1) (by omega) (by omega)] at C
  exact C
def CB (I : tq_PI) (L : tq_PL) (J : tq_PI) (M : tq_PL) (s d : Nat) : Prop := (J d 1 = I s 1 ∧ J d 2 = I s 2 ∧ J d 3 = I s 3) ∧ (∀ j, j < 600 → J (d + 1) j = I (s + 1) j) ∧ (∀ j, j < 4 → J (d + 2) j = I (s + 2) j) ∧ ∀ i, i < 2 → CE I L J M s d i
theorem e4n : (4 : Int32).toNatClampNeg = 4 := by decide
theorem c_take {I : tq_PI} {L : tq_PL} {s d : Nat} (hs : bas s) (hd : bas d) (q : d + 27 ≤ s ∨ s + 27 ≤ d) : ∃ J M, FX0_take I L d s = some (J, M) ∧ CB I L J M s d ∧ FB d I J ∧ FB d L M := by
  obtain ⟨A, hA⟩ : ∃ A, A = tq_cpr I (s + 1) (d + 1) 0 0 600 := ⟨_, rfl⟩
  have A1 : ∀ j, j < 600 → A (d + 1) j = I (s + 1) j := fun j hj => by rw [hA, cpr_s (by rw [e600]; exact hj)]
  have A2 : ∀ c, c ≠ d + 1 → A c = I c := fun c hc => by rw [hA, cpr_n hc]
  obtain ⟨B, hB⟩ : ∃ B, B = tq_up2 (tq_up2 (tq_up2 A d 1 (I s 1)) d 2 (I s 2)) d 3 (I s 3) := ⟨_, rfl⟩
  have B1 : B d 1 = I s 1 ∧ B d 2 = I s 2 ∧ B d 3 = I s 3 := by
    rw [hB]
    refine ⟨?_, ?_, ?_⟩
    · rw [up_n _ _ (by omega), up_n _ _ (by omega), up_s]
    · rw [up_n _ _ (by omega), up_s]
    · rw [up_s]
  have B2 : ∀ c, c ≠ d → B c = A c := fun c hc => by rw [hB, up_row hc, up_row hc, up_row hc]
  obtain ⟨C, hC⟩ : ∃ C, C = tq_cpr B (s + 2) (d + 2) 0 0 4 := ⟨_, rfl⟩
  have C1 : ∀ j, j < 4 → C (d + 2) j = I (s + 2) j := fun j hj => by rw [hC, cpr_s (by rw [e4n]; exact hj), B2 _ (by omega), A2 _ (by omega)]
  have C2 : ∀ c, c ≠ d + 2 → C c = B c := fun c hc => by rw [hC, cpr_n hc]
  have C3 : ∀ c, (c < d ∨ d + 3 ≤ c) → C c = I c := fun c hc => by rw [C2 _ (by omega), B2 _ (by omega), A2 _ (by omega)]
  obtain ⟨⟨J, M⟩, e, h1, h2, h3, h4⟩ := it_for (f := fun p : Int32 × tq_PI × tq_PL => FX0_take_s56 p.2.1 p.2.2 d s p.1) (fun k (x : tq_PI × tq_PL) => (zI (k : Int), x.1, x.2)) 2 (fun k x => (∀ c, (c < d + 7 ∨ d + 27 ≤ c) → x.1 c = C c) ∧ (∀ c, (c < d + 7 ∨ d + 27 ≤ c) → x.2 c = L c) ∧ ∀ i, i < k → CE I L x.1 x.2 s d i) (Post := fun x => (∀ c, (c < d + 7 ∨ d + 27 ≤ c) → x.1 c = C c) ∧ (∀ c, (c < d + 7 ∨ d + 27 ≤ c) → x.2 c = L c) ∧ (∀ i, i < 2 → CE I L x.1 x.2 s d i) ∧ x.1 = x.1) (fun k x hk hx => by
    obtain ⟨J, M⟩ := x
    obtain ⟨x1, x2, x3⟩ := hx
    dsimp only at x1 x2 x3 ⊢
    obtain ⟨J2, M2, e2, ce, f1, f2⟩ := c_take_i (I := J) (L := M) hs hd q hk
    refine Or.inl ⟨(J2, M2), e2, fun c hc => ?_, fun c hc => ?_, fun i hi => ?_⟩
    · exact (f1 c (by omega)).trans (x1 c hc)
    · exact (f2 c (by omega)).trans (x2 c hc)
    · by_cases ei : i = k
      · subst ei
        exact ce.src hk (fun c h1 h2 => by rw [x1 c (by omega), C3 c (by omega)]) (fun c h1 h2 => x2 c (by omega))
      · exact (x3 i (by omega)).mv (fun c h1 h2 => f1 c (by omega)) (f2 _ (by omega))) (fun x hx => ⟨x, by
    unfold FX0_take_s56
    dsimp only
    rw [if_pos]
    decide, hx.1, hx.2.1, hx.2.2, rfl⟩) 0 (C, L) (by omega) (by omega) ⟨fun _ _ => rfl, fun _ _ => rfl, fun i hi => by omega⟩
  dsimp only at h1 h2 h3
  refine ⟨J, M, ?_, ⟨?_, fun j hj => ?_, fun j hj => ?_, h3⟩, fun c hc => ?_, fun c hc => ?_⟩
  · have e' : tq_it (fun p : Int32 × tq_PI × tq_PL => FX0_take_s56 p.2.1 p.2.2 d s p.1) tq_N ((0 : Int32), C, L) = some (J, M) := e
    unfold FX0_take
    rw [if_pos (by decide), if_pos (by decide), (bas_rg hs).1, (bas_rg hd).1, (bas_rg hs).2.1, (bas_rg hd).2.1, ← hA, up_n _ _ (by omega), up_n _ _ (by omega), up_n _ _ (by omega), A2 s (by omega), ← hB, ← hC, e', obind]
  · rw [h1 d (by omega), C2 _ (by omega)]; exact B1
  · rw [h1 _ (by omega), C2 _ (by omega), B2 _ (by omega)]; exact A1 j hj
  · rw [h1 _ (by omega)]; exact C1 j hj
  · rw [h1 _ (by omega)]; exact C3 c (by omega)
  · exact h2 c (by omega)
