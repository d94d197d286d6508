/-! TEXT: a hill told, by the class. -/
def SZ (I : tq_PI) (L : tq_PL) (a w h : Nat) : Prop := I a 0 = zI (w : Int) ∧ I a 1 = zI (h : Int) ∧ bb (L a 2) = ar w h ∧ bb (L a 3) = edg w h 0 ∧ bb (L a 4) = edg w h 1 ∧ bb (L a 5) = (fun p => ar w h p && decide (p / 8 + 1 = h))
theorem upL_n {L : tq_PL} {a k b j : Nat} (y : Int64) (h : b ≠ a ∨ j ≠ k) : tq_up2 L a k y b j = L b j := up_n L y h
section CZ
variable {I : tq_PI} {L : tq_PL} {a w h : Nat}
theorem c_mask (h0 : I a 0 = zI (w : Int)) (hw : w ≤ 8) {r : Nat} (hr : r < 6) : bb (FX3_rowMask I L a (zI (r : Int))) = fun p => decide (p / 8 = r) && decide (p % 8 < w) := by
  unfold FX3_rowMask FX3_rowMask_j10
  rw [if_neg (by rw [show (0 : Int32) = zI 0 from rfl, zI_lt (by omega) (by omega)]; omega), if_pos (by rw [zI_lit, zI_lt (by omega) (by omega)]; omega), h0, show (8 : Int32) = zI 8 from rfl, zI_mul]
  exact mask_bb (by omega) hr
theorem c_size (k : wh w h) : ∃ I2 L2, FX3_size I L a (zI (w : Int)) (zI (h : Int)) = some (I2, L2) ∧ SZ I2 L2 a w h ∧ (∀ b j, (b ≠ a ∨ 2 ≤ j) → I2 b j = I b j) ∧ ∀ b j, (b ≠ a ∨ j < 2 ∨ 6 ≤ j) → L2 b j = L b j := by
  obtain ⟨k1, k2, k3, k4⟩ := k
  obtain ⟨I2, hI⟩ : ∃ I2, I2 = tq_up2 (tq_up2 I a 0 (zI (w : Int))) a 1 (zI (h : Int)) := ⟨_, rfl⟩
  have i0 : I2 a 0 = zI (w : Int) := by rw [hI, up_n _ _ (by omega), up_s]
  have i1 : I2 a 1 = zI (h : Int) := by rw [hI, up_s]
  obtain ⟨L3, e, A, hA, hbb⟩ := it_for (f := fun p : Int32 × tq_PL => FX3_size_s17 I2 p.2 a p.1) (fun t (M : tq_PL) => (zI (t : Int), M)) h (fun t M => ∃ A, M = tq_up2 L a 2 A ∧ bb A = fun p => decide (p / 8 < t) && decide (p % 8 < w)) (Post := fun M => ∃ A, M = tq_up2 L a 2 A ∧ bb A = fun p => decide (p / 8 < h) && decide (p % 8 < w)) (fun t M ht hM => by
    obtain ⟨A, rfl, hb⟩ := hM
    have m := c_mask (I := I2) (L := tq_up2 L a 2 A) (a := a) i0 k2 (r := t) (by omega)
    dsimp only
    unfold FX3_size_s17
    rw [if_neg (by rw [i1, zI_le (by omega) (by omega)]; omega), if_neg (by rw [zI_lit, zI_le (by omega) (by omega)]; omega), zlet, up_s, up_up, z_suc]
    refine Or.inl ⟨_, rfl, _, rfl, funext fun p => ?_⟩
    rw [bb_or, hb, m, Bool.eq_iff_iff]
    simp only [Bool.or_eq_true, Bool.and_eq_true, decide_eq_true_eq]
    omega) (fun M hM => ⟨M, by
    dsimp only
    unfold FX3_size_s17
    rw [if_pos (by rw [i1, zI_le (by omega) (by omega)]; omega)], hM⟩) 0 (tq_up2 L a 2 (0 : Int64)) (by omega) (by omega) ⟨0, rfl, funext fun p => by rw [bb_0]; simp⟩
  have e' : tq_it (fun p : Int32 × tq_PL => FX3_size_s17 I2 p.2 a p.1) tq_N ((0 : Int32), tq_up2 L a 2 (0 : Int64)) = some L3 := e
  have hb : bb A = ar w h := by
    rw [hbb]
    funext p
    unfold ar
    rw [Bool.and_comm]
  have a2 : L3 a 2 = A := by rw [hA, up_s]
  have hm1 : zI (h : Int) - (1 : Int32) = zI ((h - 1 : Nat) : Int) := by rw [show (1 : Int32) = zI 1 from rfl, zI_sub]; congr 1; omega
  have wm1 : zI (w : Int) - (1 : Int32) = zI ((w - 1 : Nat) : Int) := by rw [show (1 : Int32) = zI 1 from rfl, zI_sub]; congr 1; omega
  unfold FX3_size
  rw [← hI, e', obind, zlet, i0, i1, hm1, wm1, up_n _ _ (by omega), a2]
  have m := c_mask (I := I2) (L := (tq_up2 (tq_up2 L3 a 3 ((1103823438081 : Int64) &&& A)) a 4 (((1103823438081 : Int64) <<< (Int32.toInt64 (zI ((w - 1 : Nat) : Int)) &&& 63)) &&& A))) (a := a) i0 k2 (r := h - 1) (by omega)
  refine ⟨_, _, rfl, ⟨i0, i1, ?_, ?_, ?_, ?_⟩, fun b j q => ?_, fun b j q => ?_⟩
  · rw [up_n _ _ (by omega), up_n _ _ (by omega), up_n _ _ (by omega), a2, hb]
  · rw [up_n _ _ (by omega), up_n _ _ (by omega), up_s]
    funext p
    rw [bb_and, bb_leftm, hb]
    unfold edg
    rw [if_pos rfl, Bool.eq_iff_iff]
    simp only [Bool.and_eq_true, decide_eq_true_eq]
    constructor
    · rintro ⟨⟨_, q⟩, r⟩; exact ⟨r, q⟩
    · rintro ⟨r, q⟩; exact ⟨⟨ar_lt k4 r, q⟩, r⟩
  · rw [up_n _ _ (by omega), up_s]
    funext p
    rw [bb_and, bb_shl (by omega), bb_leftm, hb]
    unfold edg
    rw [if_neg (by omega), Bool.eq_iff_iff]
    simp only [Bool.and_eq_true, decide_eq_true_eq, Int.toNat_natCast]
    constructor
    · rintro ⟨⟨⟨_, q⟩, _, q2⟩, r⟩
      have r2 := r
      rw [ar_iff] at r2
      exact ⟨r, by omega⟩
    · rintro ⟨r, q⟩
      have l := ar_lt k4 r
      exact ⟨⟨⟨by omega, by omega⟩, by omega, by omega⟩, r⟩
  · rw [up_s, m]
    funext p
    unfold ar
    rw [Bool.eq_iff_iff]
    simp only [Bool.and_eq_true, decide_eq_true_eq]
    omega
  · rw [hI, up_n _ _ (by omega), up_n _ _ (by omega)]
  · rw [up_n _ _ (by omega), up_n _ _ (by omega), up_n _ _ (by omega), hA, up_n _ _ (by omega)]
end CZ
theorem SZ.any {I J : tq_PI} {L M : tq_PL} {a w h : Nat} (S : SZ I L a w h) (h0 : J a 0 = I a 0) (h1 : J a 1 = I a 1) (hL : ∀ j, 2 ≤ j → j < 6 → M a j = L a j) : SZ J M a w h := by
  obtain ⟨s0, s1, s2, s3, s4, s5⟩ := S
  exact ⟨by rw [h0]; exact s0, by rw [h1]; exact s1, by rw [hL _ (by omega) (by omega)]; exact s2, by rw [hL _ (by omega) (by omega)]; exact s3, by rw [hL _ (by omega) (by omega)]; exact s4, by rw [hL _ (by omega) (by omega)]; exact s5⟩
theorem HS.any {L M : tq_PL} {a : Nat} {K : Nat → Nat} (S : HS L a K) (hL : ∀ j, 6 ≤ j → j ≤ 9 → M a j = L a j) : HS M a K := by
  obtain ⟨s0, s1, s2, s3, s4⟩ := S
  exact ⟨s0, by rw [hL _ (by omega) (by omega)]; exact s1, by rw [hL _ (by omega) (by omega)]; exact s2, by rw [hL _ (by omega) (by omega)]; exact s3, by rw [hL _ (by omega) (by omega)]; exact s4⟩
/-- what is told of a hill so far -/
def HD (I : tq_PI) (L : tq_PL) (A : Nat → Int32) (w h : Nat) (tl : Nat → Bool) (K : Nat → Nat) (r l : Int) : Prop := wh w h ∧ SZ I L 32 w h ∧ bb (L 30 6) = tl ∧ HS L 32 K ∧ (∀ p, tl p = false → K p = 0) ∧ (∀ p, tl p = true → p < 48) ∧ A 0 = zI (w : Int) ∧ A 1 = zI (h : Int) ∧ (∀ p, p < 48 → A (2 + p) = zI ((if tl p then K p else 1 : Nat) : Int)) ∧ (∀ p, tl p = true → ((p % 8 : Nat) : Int) ≤ r ∧ ((p / 8 : Nat) : Int) ≤ l) ∧ (r = -1 ∨ ∃ p, tl p = true ∧ ((p % 8 : Nat) : Int) = r) ∧ (l = -1 ∨ ∃ p, tl p = true ∧ ((p / 8 : Nat) : Int) = l)
section CT2
variable {I J : tq_PI} {L M : tq_PL} {A : Nat → Int32} {w h : Nat} {tl : Nat → Bool} {K : Nat → Nat} {r l : Int}
theorem HD.any (D : HD I L A w h tl K r l) (h32 : J 32 = I 32) : HD J L A w h tl K r l := by
  obtain ⟨d1, d2, d3⟩ := D
  exact ⟨d1, d2.any (by rw [h32]) (by rw [h32]) (fun _ _ _ => rfl), d3⟩
theorem i01_3 : ((0 : Int32) ≤ 0 ∧ (0 : Int32) < 3) ∧ ((0 : Int32) ≤ 1 ∧ (1 : Int32) < 3) ∧ ((0 : Int32) ≤ 2 ∧ (2 : Int32) < 3) := by decide
theorem c_tell_f (y : Int32) (h11 : ¬ I 30 11 = 0) : FX7_tellOfHill I L 30 y = some (I, L) := by
  unfold FX7_tellOfHill
  rw [if_neg h11]
theorem c_tell_size {v u : Nat} {A2 : Nat → Int32} (D : HD I L A w h tl K r l) (h11 : I 30 11 = 0) (hv : I 42 0 = zI (v : Int)) (hu : I 42 1 = zI (u : Int)) (k : wh v u) (a0 : A2 0 = zI (v : Int)) (a1 : A2 1 = zI (u : Int)) (a2 : ∀ j, 2 ≤ j → A2 j = A j) : ∃ J M, FX7_tellOfHill I L 30 (5 : Int32) = some (J, M) ∧ HD J M A2 v u tl K r l ∧ (∀ b, b ≠ 32 → J b = I b) ∧ ∀ b, b ≠ 32 → M b = L b := by
  obtain ⟨d1, d2, d3, d4, d5, d6, d7, d8, d9, d10⟩ := D
  obtain ⟨J, M, e, S, F, G⟩ := c_size (I := I) (L := L) (a := 32) k
  refine ⟨J, M, ?_, ⟨k, S, ?_, d4.any (fun j _ _ => G _ _ (by omega)), d5, d6, a0, a1, fun p hp => by rw [a2 _ (by omega)]; exact d9 p hp, d10⟩, fun b hb => funext fun j => F _ _ (Or.inl hb), fun b hb => funext fun j => G _ _ (Or.inl hb)⟩
  · unfold FX7_tellOfHill
    rw [if_pos h11, if_pos rfl, if_pos i01_3.1, if_pos i01_3.2.1, rg_30_5, rg_30.1, e0n, e1n, hv, hu, e, obind]
  · rw [G _ _ (by omega)]; exact d3
theorem c_tell_cell {v u c : Nat} {A2 : Nat → Int32} {r2 l2 : Int} (D : HD I L A w h tl K r l) (hr : -1 ≤ r) (hl : -1 ≤ l) (h11 : I 30 11 = 0) (hv : I 42 0 = zI (v : Int)) (hu : I 42 1 = zI (u : Int)) (v7 : v ≤ 7) (u5 : u ≤ 5) (c4 : c ≤ 4) (a2 : A2 (2 + (8 * u + v)) = zI (c : Int)) (a3 : ∀ j, j ≠ 2 + (8 * u + v) → A2 j = A j) (er : r2 = if (v : Int) ≤ r then r else v) (el : l2 = if (u : Int) ≤ l then l else u) : ∃ M tl2 K2, FX7_tellOfHill I L 30 (zI (c : Int)) = some (I, M) ∧ HD I M A2 w h tl2 K2 r2 l2 ∧ ∀ b, b ≠ 32 → b ≠ 30 → M b = L b := by
  obtain ⟨d1, d2, d3, d4, d5, d6, d7, d8, d9, d10, d11, d12⟩ := D
  obtain ⟨q, hq⟩ : ∃ q, q = 8 * u + v := ⟨_, rfl⟩
  have q48 : q < 48 := by omega
  have ei : (8 : Int32) * zI (u : Int) + zI (v : Int) = zI ((q : Nat) : Int) := by rw [show (8 : Int32) = zI 8 from rfl, zI_mul, zI_add, hq]; congr 1
  obtain ⟨y, hy⟩ : ∃ y, y = (1 : Int64) <<< (Int32.toInt64 (zI ((q : Nat) : Int)) &&& 63) := ⟨_, rfl⟩
  have by1 : bb y = fun p => decide (p = q) := by rw [hy]; funext p; rw [bb_one (by omega), Int.toNat_natCast]
  have S1 : HS (tq_up2 L 30 6 (L 30 6 ||| y)) 32 K := d4.any (fun j _ _ => up_n _ _ (by omega))
  obtain ⟨F, T⟩ := c_put I S1 c4 y
  have t30 : ∀ j, (FX3_put I (tq_up2 L 30 6 (L 30 6 ||| y)) 32 (zI (c : Int)) y) 30 j = (tq_up2 L 30 6 (L 30 6 ||| y)) 30 j := fun j => F _ _ (by omega)
  refine ⟨FX3_put I (tq_up2 L 30 6 (L 30 6 ||| y)) 32 (zI (c : Int)) y, fun p => tl p || decide (p = q), fun p => if p = q then c else K p, ?_, ⟨d1, ?_, ?_, ?_, fun p hp => ?_, fun p hp => ?_, ?_, ?_, fun p hp => ?_, fun p hp => ?_, ?_, ?_⟩, fun b h1 h2 => ?_⟩
  · have n5 : ¬ zI (c : Int) = (5 : Int32) := by rw [zI_lit, zI_eq (by omega) (by omega)]; omega
    unfold FX7_tellOfHill
    rw [if_pos h11, if_neg n5, if_pos i01_3.2.1, if_pos i01_3.1, rg_30_5, rg_30.1, e0n, e1n, hv, hu, ei, ← hy, zlet]
  · exact d2.any rfl rfl (fun j _ _ => by rw [F _ _ (by omega), up_n _ _ (by omega)])
  · rw [t30, up_s]; funext p; rw [bb_or, d3, by1]
  · have eT : (fun p => if bb y p then c else K p) = fun p => if p = q then c else K p := funext fun p => by
      rw [by1]
      by_cases g : p = q <;> simp [g]
    rw [eT] at T
    exact T
  · dsimp only at hp ⊢
    simp only [Bool.or_eq_false_iff, decide_eq_false_iff_not] at hp
    rw [if_neg hp.2]; exact d5 p hp.1
  · dsimp only at hp
    simp only [Bool.or_eq_true, decide_eq_true_eq] at hp
    rcases hp with g | g
    · exact d6 p g
    · omega
  · rw [a3 _ (by omega)]; exact d7
  · rw [a3 _ (by omega)]; exact d8
  · by_cases g : p = q
    · subst g
      rw [show 2 + p = 2 + (8 * u + v) by omega, a2]
      simp
    · rw [a3 _ (by omega), d9 p hp]
      simp [g]
  · dsimp only at hp
    simp only [Bool.or_eq_true, decide_eq_true_eq] at hp
    rcases hp with g | g
    · have := d10 p g
      rw [er, el]
      constructor
      · split <;> omega
      · split <;> omega
    · rw [er, el]
      constructor
      · split <;> omega
      · split <;> omega
  · rw [er]
    by_cases g : (v : Int) ≤ r
    · rw [if_pos g]
      rcases d11 with e | ⟨p, p1, p2⟩
      · exact Or.inl e
      · exact Or.inr ⟨p, by show (tl p || decide (p = q)) = true; rw [p1]; rfl, p2⟩
    · rw [if_neg g]
      exact Or.inr ⟨q, by simp, by omega⟩
  · rw [el]
    by_cases g : (u : Int) ≤ l
    · rw [if_pos g]
      rcases d12 with e | ⟨p, p1, p2⟩
      · exact Or.inl e
      · exact Or.inr ⟨p, by show (tl p || decide (p = q)) = true; rw [p1]; rfl, p2⟩
    · rw [if_neg g]
      exact Or.inr ⟨q, by simp, by omega⟩
  · funext j
    rw [F _ _ (Or.inl h1), up_n _ _ (Or.inl h2)]
end CT2
