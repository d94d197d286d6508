/-! BOOKS: feed, in both. -/
theorem r_feed {J : tq_PI} {M : tq_PL} {n : Nat} (h1 : J 137 4 = zI (n : Int)) (hn : n ≤ 580) (a b c d e : Int32) : ∃ K, FX12_feed J M 136 a b c d e = some (zI ((n + 20 : Nat) : Int), K) ∧ AR J K n 20 (fdb a b c d e) := by
  obtain ⟨K, eK, A⟩ := it_for (f := fun p : Int32 × tq_PI => FX12_feed_s20 p.2 M 136 a b c d e p.1) (fun k (s : tq_PI) => (zI (k : Int), s)) 20 (fun k K => AR J K n k (fdb a b c d e)) (Post := fun K => AR J K n 20 (fdb a b c d e)) (fun k K hk hK => by
    have go := fun (x : Int32) (hx : fdb a b c d e k = byt x (24 - 8 * (k % 4))) => r_feedb (M := M) hK (by omega) hk a b c d e x hx
    have lt : ∀ m : Nat, m ≤ 20 → ((zI (m : Int) ≤ zI (k : Int)) = (m ≤ k)) := fun m hm => by
      rw [zI_le (by omega) (by omega)]
      apply propext
      omega
    have l4 : ((4 : Int32) ≤ zI (k : Int)) = (4 ≤ k) := lt 4 (by omega)
    have l8 : ((8 : Int32) ≤ zI (k : Int)) = (8 ≤ k) := lt 8 (by omega)
    have l12 : ((12 : Int32) ≤ zI (k : Int)) = (12 ≤ k) := lt 12 (by omega)
    have l16 : ((16 : Int32) ≤ zI (k : Int)) = (16 ≤ k) := lt 16 (by omega)
    have l20 : ((20 : Int32) ≤ zI (k : Int)) = (20 ≤ k) := lt 20 (by omega)
    unfold FX12_feed_s20
    simp only [l4, l8, l12, l16, l20]
    rw [if_neg (show ¬ 20 ≤ k by omega)]
    by_cases q4 : 4 ≤ k
    · rw [if_pos q4]
      by_cases q8 : 8 ≤ k
      · rw [if_pos q8]
        by_cases q12 : 12 ≤ k
        · rw [if_pos q12]
          by_cases q16 : 16 ≤ k
          · rw [if_pos q16]
            obtain ⟨K2, e2, A2⟩ := go e (by unfold fdb; rw [if_neg (by omega), if_neg (by omega), if_neg (by omega), if_neg (by omega)])
            exact Or.inl ⟨K2, e2, A2⟩
          · rw [if_neg q16]
            obtain ⟨K2, e2, A2⟩ := go d (by unfold fdb; rw [if_neg (by omega), if_neg (by omega), if_neg (by omega), if_pos (by omega)])
            exact Or.inl ⟨K2, e2, A2⟩
        · rw [if_neg q12]
          obtain ⟨K2, e2, A2⟩ := go c (by unfold fdb; rw [if_neg (by omega), if_neg (by omega), if_pos (by omega)])
          exact Or.inl ⟨K2, e2, A2⟩
      · rw [if_neg q8]
        obtain ⟨K2, e2, A2⟩ := go b (by unfold fdb; rw [if_neg (by omega), if_pos (by omega)])
        exact Or.inl ⟨K2, e2, A2⟩
    · rw [if_neg q4]
      obtain ⟨K2, e2, A2⟩ := go a (by unfold fdb; rw [if_pos (by omega)])
      exact Or.inl ⟨K2, e2, A2⟩) (fun K hK => ⟨K, by
    unfold FX12_feed_s20
    dsimp only
    rw [if_pos]
    decide, hK⟩) 0 J (by omega) (by omega) ⟨h1, fun i hi => by omega, fun _ _ => rfl, fun _ _ _ => rfl⟩
  have e' : tq_it (fun p : Int32 × tq_PI => FX12_feed_s20 p.2 M 136 a b c d e p.1) tq_N ((0 : Int32), J) = some K := eK
  have e4 : ((4 : Int32)).toNatClampNeg = 4 := by decide
  have c4 : (0 : Int32) ≤ 4 ∧ (4 : Int32) < 4016 := by decide
  have cl : J 137 4 + (20 : Int32) ≤ (600 : Int32) := by rw [h1, show (20 : Int32) = zI 20 from rfl, show (600 : Int32) = zI 600 from rfl, zI_add, zI_le (by omega) (by omega)]; omega
  refine ⟨K, ?_, A⟩
  unfold FX12_feed
  rw [if_pos c4, g0, e4, if_pos cl, e', obind, if_pos c4, A.1]
theorem q_feed {I : tq_PI} {L : tq_PL} (T : TP I 1 0) (a b c d e : Int32) : (FX11_feed I L 0 a b c d e = some (-1, I) ∧ ∀ J M, J 137 = I 137 → FX12_feed J M 136 a b c d e = some (-1, J)) ∨ ∃ (n : Nat) (v : Int32) (I2 : tq_PI), n ≤ 580 ∧ I 1 1 = zI (n : Int) ∧ FX11_feed I L 0 a b c d e = some (v, I2) ∧ AP I I2 n 20 (fdb a b c d e) ∧ ∀ J M, J 137 = I 137 → ∃ J2, FX12_feed J M 136 a b c d e = some (v, J2) ∧ AR J J2 n 20 (fdb a b c d e) := by
  obtain ⟨n, hn, h1, h2, -⟩ := T
  by_cases q : n ≤ 580
  · obtain ⟨K, eK, A⟩ := c_feed (L := L) h1 q a b c d e
    refine Or.inr ⟨n, _, K, q, h1, eK, A, fun J M hJ => ?_⟩
    exact r_feed (by rw [hJ]; exact h2) q a b c d e
  · refine Or.inl ⟨?_, fun J M hJ => ?_⟩
    · unfold FX11_feed
      rw [rg_0_0, if_neg]
      rw [h1, show (580 : Int32) = zI 580 from rfl, zI_le (by omega) (by omega)]
      omega
    · have e4 : ((4 : Int32)).toNatClampNeg = 4 := by decide
      have c4 : (0 : Int32) ≤ 4 ∧ (4 : Int32) < 4016 := by decide
      have h2' : J 137 4 = zI (n : Int) := by rw [hJ]; exact h2
      unfold FX12_feed
      rw [if_pos c4, g0, e4, if_neg]
      rw [h2', show (20 : Int32) = zI 20 from rfl, show (600 : Int32) = zI 600 from rfl, zI_add, zI_le (by omega) (by omega)]
      omega
