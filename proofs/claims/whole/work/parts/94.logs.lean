/-! LOGS: the walk over what fits by the reference; which cell is best asked. -/
theorem Sur_rng {g : Nat → Nat} {F : Nat → Bool} {n b : Nat} {v : Int} (a : Sur g F n v) (hb : ∀ c, c < n → g c < b) (h0 : 0 < b) : -2 ≤ v ∧ v < b := by
  rcases a with ⟨rfl, a⟩ | ⟨d, d1, d2, rfl, a⟩ | ⟨rfl, c, d, h1, h2, h3, h4, h5⟩
  · omega
  · have := hb d d1; omega
  · omega
section FU
variable {I J : tq_PI} {M : tq_PL} {y o m : Nat} {lc lh : Nat → Nat}
theorem r_fits (D : LD I y (J 137) o m lc lh) (h33 : J 136 33 = zI (o : Int)) (ho : o + 17 ≤ 4016) {z : Int} (hz : 0 ≤ z ∧ z < 2147483648) : ∃ b, tq_it (fun p : Int32 × Int32 × Int32 × Int32 => FX12_fits_s36 J M 136 (zI z) p.1 p.2.1 p.2.2.1 p.2.2.2) tq_N ((0 : Int32), (-1 : Int32), (-1 : Int32), (0 : Int32)) = some b ∧ ((z < 10 ∧ ∃ u v : Int, b = .inl (zI ((fb_ct (fit m lc lh) n432 : Nat) : Int), zI u, zI v) ∧ Sur (fun c => c / 9) (fit m lc lh) n432 u ∧ Sur (fun c => c % 9 + 1) (fit m lc lh) n432 v) ∨ (10 ≤ z ∧ ((∃ t, b = .inl t ∧ Kth (fit m lc lh) n432 (z - 10) (-2)) ∨ ∃ c : Nat, b = .inr (zI (c : Int), J) ∧ Kth (fit m lc lh) n432 (z - 10) c))) := by
  have nn := n432_e
  have hl := fun c => fb_ct_le (fit m lc lh) c
  generalize n432 = N at *
  obtain ⟨b, e, h⟩ := it_for (f := fun p : Int32 × Int32 × Int32 × Int32 => FX12_fits_s36 J M 136 (zI z) p.1 p.2.1 p.2.2.1 p.2.2.2) (fun c (s : Int × Int) => (zI ((fb_ct (fit m lc lh) c : Nat) : Int), zI s.1, zI s.2, zI (c : Int))) N (fun c s => c ≤ N ∧ Sur (fun c => c / 9) (fit m lc lh) c s.1 ∧ Sur (fun c => c % 9 + 1) (fit m lc lh) c s.2 ∧ (10 ≤ z → ∀ d, d < c → fit m lc lh d = true → (fb_ct (fit m lc lh) d : Int) ≠ z - 10)) (Post := fun b => (z < 10 ∧ ∃ u v : Int, b = .inl (zI ((fb_ct (fit m lc lh) N : Nat) : Int), zI u, zI v) ∧ Sur (fun c => c / 9) (fit m lc lh) N u ∧ Sur (fun c => c % 9 + 1) (fit m lc lh) N v) ∨ (10 ≤ z ∧ ((∃ t, b = .inl t ∧ Kth (fit m lc lh) N (z - 10) (-2)) ∨ ∃ c : Nat, b = .inr (zI (c : Int), J) ∧ Kth (fit m lc lh) N (z - 10) c))) (fun c s hc hs => by
    obtain ⟨u, v⟩ := s
    obtain ⟨h0, h1, h2, h3⟩ := hs
    dsimp only at h1 h2 ⊢
    have so := r_isSo (M := M) D h33 (by omega) (c := c) (by omega)
    have ru := Sur_rng h1 (b := 48) (fun d hd => by omega) (by omega)
    have rv := Sur_rng h2 (b := 10) (fun d hd => by omega) (by omega)
    have hcl := hl c
    have j73 := r_j73 (J := J) (M := M) (a2 := zI z) (c := c) (n := fb_ct (fit m lc lh) c) (u := u) (v := v) (by omega) (by omega) (by omega) (by omega)
    unfold FX12_fits_s36 FX12_fits_j132L36
    rw [so, obind, j73]
    have c1 : ¬ (432 : Int32) ≤ zI (c : Int) := by
      rw [show (432 : Int32) = zI 432 from rfl, zI_le (by omega) (by omega)]
      omega
    rw [if_neg c1]
    cases hf : fit m lc lh c with
    | false =>
      rw [if_pos (show tq_b false = 0 from rfl)]
      refine Or.inl ⟨(u, v), ?_, by omega, Sur_f h1 hf, Sur_f h2 hf, fun q d hd hF => ?_⟩
      · rw [fb_ct_succ, hf, show (1 : Int32) = zI 1 from rfl, zI_add]; rfl
      · by_cases e : d = c
        · rw [e, hf] at hF; cases hF
        · exact h3 q d (by omega) hF
    | true =>
      rw [if_neg tb1]
      have go : ((10 ≤ z → (fb_ct (fit m lc lh) c : Int) ≠ z - 10)) → ∃ s2 : Int × Int, (some (.inl (zI ((fb_ct (fit m lc lh) c + 1 : Nat) : Int), zI (if fb_ct (fit m lc lh) c = 0 ∨ u = ((c / 9 : Nat) : Int) then ((c / 9 : Nat) : Int) else -2), zI (if fb_ct (fit m lc lh) c = 0 ∨ v = ((c % 9 + 1 : Nat) : Int) then ((c % 9 + 1 : Nat) : Int) else -2), zI ((c + 1 : Nat) : Int))) : Option ((Int32 × Int32 × Int32 × Int32) ⊕ ((Int32 × Int32 × Int32) ⊕ (Int32 × tq_PI)))) = some (.inl (zI ((fb_ct (fit m lc lh) (c + 1) : Nat) : Int), zI s2.1, zI s2.2, zI ((c + 1 : Nat) : Int))) ∧ (c + 1 ≤ N ∧ Sur (fun c => c / 9) (fit m lc lh) (c + 1) s2.1 ∧ Sur (fun c => c % 9 + 1) (fit m lc lh) (c + 1) s2.2 ∧ (10 ≤ z → ∀ d, d < c + 1 → fit m lc lh d = true → (fb_ct (fit m lc lh) d : Int) ≠ z - 10)) := fun hq => by
        refine ⟨(if fb_ct (fit m lc lh) c = 0 ∨ u = ((c / 9 : Nat) : Int) then ((c / 9 : Nat) : Int) else -2, if fb_ct (fit m lc lh) c = 0 ∨ v = ((c % 9 + 1 : Nat) : Int) then ((c % 9 + 1 : Nat) : Int) else -2), ?_, by omega, Sur_t h1 hf, Sur_t h2 hf, fun q d hd hF => ?_⟩
        · rw [fb_ct_succ, hf]; rfl
        · by_cases e : d = c
          · rw [e]; exact hq q
          · exact h3 q d (by omega) hF
      have c2 : (zI z < (10 : Int32)) = (z < 10) := by rw [show (10 : Int32) = zI 10 from rfl, zI_lt (by omega) (by omega)]
      have c3 : (zI ((fb_ct (fit m lc lh) c : Nat) : Int) = zI z - (10 : Int32)) = ((fb_ct (fit m lc lh) c : Int) = z - 10) := by rw [show (10 : Int32) = zI 10 from rfl, zI_sub, zI_eq (by omega) (by omega)]
      simp only [c2, c3]
      by_cases q : z < 10
      · rw [if_pos q]
        exact Or.inl (go (fun h => by omega))
      · rw [if_neg q]
        by_cases r : (fb_ct (fit m lc lh) c : Int) = z - 10
        · rw [if_pos r]
          exact Or.inr ⟨_, rfl, Or.inr ⟨by omega, Or.inr ⟨c, rfl, Or.inl ⟨c, hc, hf, r, rfl⟩⟩⟩⟩
        · rw [if_neg r]
          exact Or.inl (go (fun _ => r))) (fun s hs => by
    obtain ⟨h0, h1, h2, h3⟩ := hs
    refine ⟨.inl (zI ((fb_ct (fit m lc lh) N : Nat) : Int), zI s.1, zI s.2), ?_, ?_⟩
    · unfold FX12_fits_s36
      rw [if_pos]
      dsimp only
      rw [show (432 : Int32) = zI 432 from rfl, zI_le (by omega) (by omega)]
      omega
    · by_cases q : z < 10
      · exact Or.inl ⟨q, s.1, s.2, rfl, h1, h2⟩
      · exact Or.inr ⟨by omega, Or.inl ⟨_, rfl, Or.inr ⟨rfl, h3 (by omega)⟩⟩⟩) 0 ((-1 : Int), (-1 : Int)) (by omega) (by omega) ⟨by omega, Or.inl ⟨rfl, fun c hc => by omega⟩, Or.inl ⟨rfl, fun c hc => by omega⟩, fun _ d hd => by omega⟩
  exact ⟨b, e, h⟩
end FU
