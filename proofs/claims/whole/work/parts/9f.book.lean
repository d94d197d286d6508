/-! BOOKS: a book taken from another, whole. -/
def CE (I : tq_PI) (L : tq_PL) (J : tq_PI) (M : tq_PL) (s d i : Nat) : Prop := (J (d + 7 + 10 * i) 0 = I (s + 7 + 10 * i) 0 ∧ J (d + 7 + 10 * i) 1 = I (s + 7 + 10 * i) 1 ∧ ∀ j, 2 ≤ j → j ≤ 9 → M (d + 7 + 10 * i) j = L (s + 7 + 10 * i) j) ∧ (J (d + 8 + 10 * i) 0 = I (s + 8 + 10 * i) 0 ∧ ∀ j, j < 40 → J (d + 8 + 10 * i + 1) j = I (s + 8 + 10 * i + 1) j ∧ J (d + 8 + 10 * i + 2) j = I (s + 8 + 10 * i + 2) j ∧ J (d + 8 + 10 * i + 3) j = I (s + 8 + 10 * i + 3) j) ∧ (J (d + 12 + 10 * i) 0 = I (s + 12 + 10 * i) 0 ∧ ∀ j, j < 8 → J (d + 12 + 10 * i + 1) j = I (s + 12 + 10 * i + 1) j ∧ J (d + 12 + 10 * i + 2) j = I (s + 12 + 10 * i + 2) j) ∧ (J (d + 15 + 10 * i) 0 = I (s + 15 + 10 * i) 0 ∧ ∀ j, j < 8 → J (d + 15 + 10 * i + 1) j = I (s + 15 + 10 * i + 1) j)
def FB {α : Type} (d : Nat) (I J : Nat → Nat → α) : Prop := ∀ c, (c < d ∨ d + 27 ≤ c) → J c = I c
theorem CE.mv {I J K : tq_PI} {L M N : tq_PL} {s d i : Nat} (C : CE I L J M s d i) (hJ : ∀ c, d + 7 + 10 * i ≤ c → c < d + 17 + 10 * i → K c = J c) (hM : N (d + 7 + 10 * i) = M (d + 7 + 10 * i)) : CE I L K N s d i := by
  unfold CE at *
  rw [hJ (d + 7 + 10 * i) (by omega) (by omega), hM, hJ (d + 8 + 10 * i) (by omega) (by omega), hJ (d + 8 + 10 * i + 1) (by omega) (by omega), hJ (d + 8 + 10 * i + 2) (by omega) (by omega), hJ (d + 8 + 10 * i + 3) (by omega) (by omega), hJ (d + 12 + 10 * i) (by omega) (by omega), hJ (d + 12 + 10 * i + 1) (by omega) (by omega), hJ (d + 12 + 10 * i + 2) (by omega) (by omega), hJ (d + 15 + 10 * i) (by omega) (by omega), hJ (d + 15 + 10 * i + 1) (by omega) (by omega)]
  exact C
/-- the i-th of each sort -/
theorem c_take_i {I : tq_PI} {L : tq_PL} {s d i : Nat} (hs : bas s) (hd : bas d) (q : d + 27 ≤ s ∨ s + 27 ≤ d) (hi : i < 2) : ∃ J M, FX0_take_s56 I L d s (zI (i : Int)) = some (.inl (zI ((i + 1 : Nat) : Int), J, M)) ∧ CE I L J M s d i ∧ (∀ c, (c < d + 7 + 10 * i ∨ d + 17 + 10 * i ≤ c) → J c = I c) ∧ ∀ c, c ≠ d + 7 + 10 * i → M c = L c := by
  have ne : s + 7 + 10 * i ≠ d + 7 + 10 * i := by omega
  obtain ⟨hL, fL⟩ := c_takeL (I := I) (L := L) ne
  obtain ⟨h0, h1, fI⟩ := c_takeI (I := I) (L := L) ne
  obtain ⟨T, hT⟩ : ∃ T, T = FX3_take I L (d + 7 + 10 * i) (s + 7 + 10 * i) := ⟨_, rfl⟩
  rw [← hT] at hL fL h0 h1 fI
  obtain ⟨I1, M⟩ := T
  dsimp only at hL fL h0 h1 fI
  have hT' := hT.symm
  obtain ⟨J2, e2, a2, b2, f2⟩ := c_take10 (I := I1) M (bas_in hs hi).1.1 (bas_in hs hi).1.2.1 (bas_in hs hi).1.2.2 (bas_in hd hi).1.1 (bas_in hd hi).1.2.1 (bas_in hd hi).1.2.2 (by omega)
  obtain ⟨J3, e3, a3, b3, f3⟩ := c_take4 (I := J2) M (bas_in hs hi).2.1.1 (bas_in hs hi).2.1.2 (bas_in hd hi).2.1.1 (bas_in hd hi).2.1.2 (by omega)
  obtain ⟨J4, e4, a4, b4, f4⟩ := c_take9 (I := J3) M (bas_in hs hi).2.2 (bas_in hd hi).2.2 (by omega)
  have st : FX0_take_s56 I L d s (zI (i : Int)) = some (.inl (zI ((i + 1 : Nat) : Int), J4, M)) := by
    have c2 : ¬ (2 : Int32) ≤ zI (i : Int) := by rw [show (2 : Int32) = zI 2 from rfl, zI_le (by omega) (by omega)]; omega
    have cc : (0 : Int32) ≤ zI (i : Int) ∧ zI (i : Int) < 2 := ⟨by rw [show (0 : Int32) = zI 0 from rfl, zI_le (by omega) (by omega)]; omega, by rw [show (2 : Int32) = zI 2 from rfl, zI_lt (by omega) (by omega)]; omega⟩
    have ec : (zI (i : Int)).toNatClampNeg = i := by rw [zI_cl (by omega), Int.toNat_natCast]
    unfold FX0_take_s56
    rw [if_neg c2, if_pos cc, if_pos cc, zlet, ec, (bas_rg hd).2.2.1, (bas_rg hs).2.2.1, (bas_it hd hi).1, (bas_it hs hi).1, hT', if_pos cc, if_pos cc, (bas_rg hd).2.2.2.1, (bas_rg hs).2.2.2.1, (bas_it hd hi).2.1, (bas_it hs hi).2.1, e2, obind, if_pos cc, if_pos cc, (bas_rg hd).2.2.2.2.1, (bas_rg hs).2.2.2.2.1, (bas_it hd hi).2.2.1, (bas_it hs hi).2.2.1, e3, obind, if_pos cc, if_pos cc, (bas_rg hd).2.2.2.2.2, (bas_rg hs).2.2.2.2.2, (bas_it hd hi).2.2.2, (bas_it hs hi).2.2.2, e4, obind]
    rw [show (1 : Int32) = zI 1 from rfl, zI_add]
    rfl
  clear hT hT'
  refine ⟨J4, M, st, ?_, fun c hc => by rw [f4 _ (by omega), f3 _ (by omega), f2 _ (by omega), fI _ (by omega)], fL⟩
  clear st
  refine ⟨⟨?_, ?_, hL⟩, ⟨?_, fun j hj => ?_⟩, ⟨?_, fun j hj => ?_⟩, ?_, fun j hj => ?_⟩
  · rw [f4 _ (by omega), f3 _ (by omega), f2 _ (by omega), h0]
  · rw [f4 _ (by omega), f3 _ (by omega), f2 _ (by omega), h1]
  · rw [f4 _ (by omega), f3 _ (by omega), a2, fI _ (by omega)]
  · obtain ⟨u1, u2, u3⟩ := b2 j hj
    rw [f4 _ (by omega), f4 _ (by omega), f4 _ (by omega), f3 _ (by omega), f3 _ (by omega), f3 _ (by omega), u1, u2, u3, fI _ (by omega), fI _ (by omega), fI _ (by omega)]
    exact ⟨rfl, rfl, rfl⟩
  · rw [f4 _ (by omega), a3, f2 _ (by omega), fI _ (by omega)]
  · obtain ⟨u1, u2⟩ := b3 j hj
    rw [f4 _ (by omega), f4 _ (by omega), u1, u2, f2 _ (by omega), f2 _ (by omega), fI _ (by omega), fI _ (by omega)]
    exact ⟨rfl, rfl⟩
  · rw [a4, f3 _ (by omega), f2 _ (by omega), fI _ (by omega)]
  · rw [b4 j hj, f3 _ (by omega), f2 _ (by omega), fI _ (by omega)]
