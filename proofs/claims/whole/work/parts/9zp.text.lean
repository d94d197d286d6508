/-! TEXT: pieces of a line by the reference. -/
theorem e5n : (5 : Int32).toNatClampNeg = 5 := by decide
theorem e6n : (6 : Int32).toNatClampNeg = 6 := by decide
theorem e0n : (0 : Int32).toNatClampNeg = 0 := by decide
theorem e1n : (1 : Int32).toNatClampNeg = 1 := by decide
theorem i5 : (0 : Int32) ≤ 5 ∧ (5 : Int32) < 4016 := by decide
theorem i6 : (0 : Int32) ≤ 6 ∧ (6 : Int32) < 4016 := by decide
def RRd (J : tq_PI) (B : Nat → Nat) (n p : Nat) (x : Nat × Int) : Prop := RTp J B n ∧ p ≤ n ∧ LA J B n p ∧ J 136 8 = 0 ∧ J 137 5 = zI (x.1 : Nat) ∧ J 137 6 = zI x.2 ∧ x.1 ≤ 5 ∧ (x.1 ≠ 0 → 0 ≤ x.2 ∧ x.2 < p)
def WWr (J : tq_PI) (q : Nat) : Prop := J 136 8 = 1 ∧ J 137 5 = 1 ∧ J 137 6 = zI (q : Int)
def FRl (I J : tq_PI) : Prop := ∀ b j, (b ≠ 136 ∨ j < 3 ∨ 9 ≤ j) → (b ≠ 137 ∨ (j ≠ 5 ∧ j ≠ 6)) → J b j = I b j
section RL
variable {I J : tq_PI} {M : tq_PL} {B : Nat → Nat} {n p : Nat} {x : Nat × Int}
theorem FRl.rf : FRl I I := fun _ _ _ _ => rfl
theorem FRl.tr {J K : tq_PI} (h : FRl I J) (k : FRl J K) : FRl I K := fun b j q r => (k b j q r).trans (h b j q r)
theorem FTr.rl (F : FTr I J) : FRl I J := fun b j q _ => F b j (by omega)
theorem RTp.any {K : tq_PI} (C : RTp J B n) (h2 : K 136 2 = J 136 2) (h : ∀ i, K 137 (10 + i) = J 137 (10 + i)) : RTp K B n := ⟨C.1, by rw [h2]; exact C.2.1, fun i hi => by rw [h i]; exact C.2.2 i hi⟩
theorem LA.any {K : tq_PI} (C : LA J B n p) (h : ∀ j, 3 ≤ j → j < 8 → K 136 j = J 136 j) : LA K B n p := by
  obtain ⟨a, b, c, d, e⟩ := C
  exact ⟨by rw [h _ (by omega) (by omega)]; exact a, by rw [h _ (by omega) (by omega)]; exact b, by rw [h _ (by omega) (by omega)]; exact c, fun g => by rw [h _ (by omega) (by omega)]; exact d g, fun g => by rw [h _ (by omega) (by omega)]; exact e g⟩
theorem r_ends {s : Nat} (h8 : J 136 8 = 0) (h4 : J 136 4 = zI (s : Int)) : ∃ K, FX12_ends J M 136 = some K ∧ WWr K s ∧ FRl J K := by
  unfold FX12_ends
  rw [if_pos h8, if_pos i5, if_pos i6, g0, e5n, e6n]
  refine ⟨_, rfl, ⟨?_, ?_, ?_⟩, fun b j q r => ?_⟩
  · rw [up_n _ _ (by omega), up_n _ _ (by omega), up_s]
  · rw [up_n _ _ (by omega), up_s]
  · rw [up_s, up_n _ _ (by omega), up_n _ _ (by omega)]; exact h4
  · rw [up_n _ _ (by omega), up_n _ _ (by omega), up_n _ _ (by omega)]
theorem r_ends_w {s : Nat} (W : WWr J s) : FX12_ends J M 136 = some J := by
  unfold FX12_ends
  rw [if_neg (by rw [W.1]; decide)]
theorem r_also {k q : Nat} (h8 : J 136 8 = 0) (h5 : J 137 5 = zI (x.1 : Nat)) (h6 : J 137 6 = zI x.2) (hx : x.1 ≤ 5) (hp : x.1 ≠ 0 → 0 ≤ x.2 ∧ x.2 < q) (hq : q ≤ 600) : ∃ K, FX12_also J M 136 (zI (k : Int)) (zI (q : Int)) = some K ∧ K 137 5 = zI ((blm x false k q).1 : Nat) ∧ K 137 6 = zI (blm x false k q).2 ∧ ∀ b j, (b ≠ 137 ∨ (j ≠ 5 ∧ j ≠ 6)) → K b j = J b j := by
  unfold FX12_also FX12_also_j49 blm
  rw [if_pos h8, if_pos i5, if_pos i5, if_pos i6, g0, e5n, e6n]
  by_cases g : x.1 = 0
  · rw [if_pos (by rw [h5, g]; rfl), if_pos ⟨g, rfl⟩]
    refine ⟨_, rfl, ?_, ?_, fun b j q => ?_⟩
    · rw [up_n _ _ (by omega), up_s]
    · rw [up_s]
    · rw [up_n _ _ (by omega), up_n _ _ (by omega)]
  · obtain ⟨p1, p2⟩ := hp g
    rw [if_neg (by rw [h5, show (0 : Int32) = zI 0 from rfl, zI_eq (by omega) (by omega)]; omega), if_pos i6, if_pos (by rw [h6, zI_lt (by omega) (by omega)]; omega), if_neg (fun h => g h.1)]
    exact ⟨J, rfl, h5, h6, fun _ _ _ => rfl⟩
theorem RRd.bl {K : tq_PI} (R : RRd J B n p x) {k q : Nat} (hk : k ≤ 5) (hq : q < p) (h5 : K 137 5 = zI ((blm x false k q).1 : Nat)) (h6 : K 137 6 = zI (blm x false k q).2) (F : ∀ b j, (b ≠ 137 ∨ (j ≠ 5 ∧ j ≠ 6)) → K b j = J b j) : RRd K B n p (blm x false k q) := by
  obtain ⟨r1, r2, r3, r4, r5, r6, r7, r8⟩ := R
  refine ⟨r1.any (F _ _ (by omega)) (fun i => F _ _ (by omega)), r2, r3.any (fun j _ _ => F _ _ (by omega)), by rw [F _ _ (by omega)]; exact r4, h5, h6, blm_le r7 hk, fun h => ?_⟩
  unfold blm at h ⊢
  by_cases g : x.1 = 0
  · rw [if_pos ⟨g, rfl⟩]
    show 0 ≤ (q : Int) ∧ (q : Int) < (p : Int)
    omega
  · rw [if_neg (fun h => g h.1)]
    exact r8 g
theorem RRd.nx {K : tq_PI} (R : RRd J B n p x) (h0 : tK B n p ≠ 0) (F : FTr J K) (A : LA K B n (tE B n p)) : RRd K B n (tE B n p) x := by
  obtain ⟨r1, r2, r3, r4, r5, r6, r7, r8⟩ := R
  refine ⟨r1.ft F, tE_le r2, A, by rw [F _ _ (by omega)]; exact r4, by rw [F _ _ (by omega)]; exact r5, by rw [F _ _ (by omega)]; exact r6, r7, fun h => ?_⟩
  have := r8 h
  have := tE_gt h0
  have := tS_ge (B := B) (n := n) (p := p)
  omega
theorem rK_1 {k w : Nat} (h : k ≤ 4) : rK k w = 1 ↔ k = 2 := by
  unfold rK
  rcases (by omega : k = 0 ∨ k = 1 ∨ k = 2 ∨ k = 3 ∨ k = 4) with rfl | rfl | rfl | rfl | rfl
  · simp
  · simp; split <;> omega
  · simp
  · simp
  · simp
theorem rK_2 {k w : Nat} (h : k ≤ 4) : rK k w = 2 ↔ k = 3 := by
  unfold rK
  rcases (by omega : k = 0 ∨ k = 1 ∨ k = 2 ∨ k = 3 ∨ k = 4) with rfl | rfl | rfl | rfl | rfl
  · simp
  · simp; split <;> omega
  · simp
  · simp
  · simp
theorem rK_0 {k w : Nat} (h : k ≤ 4) : rK k w = 0 ↔ k = 0 := by
  unfold rK
  rcases (by omega : k = 0 ∨ k = 1 ∨ k = 2 ∨ k = 3 ∨ k = 4) with rfl | rfl | rfl | rfl | rfl
  · simp
  · simp; split <;> omega
  · simp
  · simp
  · simp
theorem rK_3 {k w : Nat} (h : k ≤ 4) : rK k w = 3 ↔ (k = 1 ∧ w ≠ 99) := by
  unfold rK
  rcases (by omega : k = 0 ∨ k = 1 ∨ k = 2 ∨ k = 3 ∨ k = 4) with rfl | rfl | rfl | rfl | rfl
  · simp
  · simp
  · simp
  · simp
  · simp
theorem rK_le {k w : Nat} : rK k w ≤ 4 := by
  unfold rK
  split
  · omega
  · split
    · split <;> omega
    · split
      · omega
      · split <;> omega
/-- a number in its place -/
theorem r_numd (R : RRd J B n p x) {lo hi : Nat} (h1 : hi ≤ 99) (h2 : lo ≤ 99) : (tK B n p = 2 → ∃ K, FX12_numbered J M 136 (zI (lo : Int)) (zI (hi : Int)) = some (zI ((if lo ≤ tN B n p ∧ tN B n p ≤ hi then tN B n p else lo : Nat) : Int), K) ∧ RRd K B n (tE B n p) (blm x (decide (lo ≤ tN B n p ∧ tN B n p ≤ hi)) 2 (tS B n p)) ∧ FRl J K) ∧ (tK B n p ≠ 2 → ∃ K, FX12_numbered J M 136 (zI (lo : Int)) (zI (hi : Int)) = some (zI (lo : Int), K) ∧ WWr K (tS B n p) ∧ FRl J K) := by
  have R0 := R
  obtain ⟨r1, r2, ⟨a3, a4, a5, a6, a7⟩, r4, r5, r6, r7, r8⟩ := R0
  have c600 := r1.1
  have k4 := tK_le (B := B) (n := n) (p := p)
  have rl := rK_le (k := tK B n p) (w := tW B n p)
  have sl := tS_le (B := B) r2
  unfold FX12_numbered FX12_numbered_j15 FX12_numbered_j44
  rw [if_pos r4]
  refine ⟨fun h => ?_, fun h => ?_⟩
  · have vl := tN_le h
    have gt := tE_gt (B := B) (n := n) (p := p) (by omega)
    have sg := tS_ge (B := B) (n := n) (p := p)
    rw [if_pos (by rw [a5, (rK_1 k4).2 h]; rfl), a6 h, zlet, r_isIn _ _ (by omega) (by omega) (by omega)]
    have ed : decide ((lo : Int) ≤ (tN B n p : Nat) ∧ ((tN B n p : Nat) : Int) ≤ hi) = decide (lo ≤ tN B n p ∧ tN B n p ≤ hi) := by
      congr 1
      apply propext
      omega
    rw [ed]
    by_cases g : lo ≤ tN B n p ∧ tN B n p ≤ hi
    · obtain ⟨K, e, F, A⟩ := r_adv (M := M) r1 (tE_le r2) a3
      rw [decide_eq_true g, if_neg tb1, e, obind, zlet, r_isIn _ _ (by omega) (by omega) (by omega), ed, decide_eq_true g, if_neg tb1, if_pos g]
      refine ⟨K, rfl, ?_, F.rl⟩
      unfold blm
      rw [if_neg (by simp)]
      exact R.nx (by omega) F A
    · obtain ⟨J1, e1, h5, h6, F1⟩ := r_also (M := M) (k := 2) (q := tS B n p) r4 r5 r6 r7 (fun g => by have := r8 g; omega) (by omega)
      have e1' : FX12_also J M 136 (2 : Int32) (zI (tS B n p : Nat)) = some J1 := e1
      obtain ⟨K, e, F, A⟩ := r_adv (M := M) (J := J1) (r1.any (F1 _ _ (by omega)) (fun i => F1 _ _ (by omega))) (tE_le r2) (by rw [F1 _ _ (by omega)]; exact a3)
      rw [decide_eq_false g, if_pos (show tq_b false = 0 from rfl), a4, e1', obind, e, obind, zlet, r_isIn _ _ (by omega) (by omega) (by omega), ed, decide_eq_false g, if_pos (show tq_b false = 0 from rfl), if_neg g]
      have RJ : RRd J1 B n (tE B n p) (blm x false 2 (tS B n p)) → RRd K B n (tE B n p) (blm x false 2 (tS B n p)) := fun Q => by
        obtain ⟨q1, q2, q3, q4, q5, q6, q7, q8⟩ := Q
        exact ⟨q1.ft F, q2, A, by rw [F _ _ (by omega)]; exact q4, by rw [F _ _ (by omega)]; exact q5, by rw [F _ _ (by omega)]; exact q6, q7, q8⟩
      refine ⟨K, rfl, ?_, FRl.tr (fun b j q r => F1 b j r) F.rl⟩
      refine ⟨(r1.any (F1 _ _ (by omega)) (fun i => F1 _ _ (by omega))).ft F, tE_le r2, A, by rw [F _ _ (by omega), F1 _ _ (by omega)]; exact r4, by rw [F _ _ (by omega)]; exact h5, by rw [F _ _ (by omega)]; exact h6, blm_le r7 (by omega), fun h => ?_⟩
      unfold blm at h ⊢
      by_cases g : x.1 = 0
      · rw [if_pos ⟨g, rfl⟩]
        show 0 ≤ ((tS B n p : Nat) : Int) ∧ ((tS B n p : Nat) : Int) < ((tE B n p : Nat) : Int)
        omega
      · rw [if_neg (fun h => g h.1)]
        have := r8 g
        omega
  · obtain ⟨K, e, W, F⟩ := r_ends (M := M) r4 a4
    have ng : ¬ rK (tK B n p) (tW B n p) = 1 := fun g => h ((rK_1 k4).1 g)
    rw [if_neg (by rw [a5, zI_lit, zI_eq (by omega) (by omega)]; omega), e, obind]
    exact ⟨K, rfl, W, F⟩
theorem r_numd_w {s : Nat} (W : WWr J s) (a b : Int32) : FX12_numbered J M 136 a b = some (a, J) := by
  unfold FX12_numbered FX12_numbered_j15
  rw [if_neg (by rw [W.1]; decide), r_ends_w W, obind]
theorem r_endl (R : RRd J B n p x) : (tK B n p = 3 → ∃ K, FX12_endsLine J M 136 = some K ∧ RRd K B n (tE B n p) x ∧ FRl J K) ∧ (tK B n p ≠ 3 → ∃ K, FX12_endsLine J M 136 = some K ∧ WWr K (tS B n p) ∧ FRl J K) := by
  have R0 := R
  obtain ⟨r1, r2, ⟨a3, a4, a5, a6, a7⟩, r4, r5, r6, r7, r8⟩ := R0
  have k4 := tK_le (B := B) (n := n) (p := p)
  have rl := rK_le (k := tK B n p) (w := tW B n p)
  unfold FX12_endsLine FX12_endsLine_j22
  rw [if_pos r4]
  refine ⟨fun h => ?_, fun h => ?_⟩
  · obtain ⟨K, e, F, A⟩ := r_adv (M := M) r1 (tE_le r2) a3
    rw [if_pos (by rw [a5, (rK_2 k4).2 h]; rfl), e, obind]
    exact ⟨K, rfl, R.nx (by omega) F A, F.rl⟩
  · obtain ⟨K, e, W, F⟩ := r_ends (M := M) r4 a4
    have ng : ¬ rK (tK B n p) (tW B n p) = 2 := fun g => h ((rK_2 k4).1 g)
    rw [if_neg (by rw [a5, zI_lit, zI_eq (by omega) (by omega)]; omega), e, obind]
    exact ⟨K, rfl, W, F⟩
theorem r_endl_w {s : Nat} (W : WWr J s) : FX12_endsLine J M 136 = some J := by
  unfold FX12_endsLine FX12_endsLine_j22
  rw [if_neg (by rw [W.1]; decide), r_ends_w W, obind]
theorem r_word (R : RRd J B n p x) {a b : Nat} (ha : a ≤ 99) (hb : b < 99) : ((tK B n p = 1 ∧ a ≤ tW B n p ∧ tW B n p ≤ b) → ∃ K, FX12_wordIn J M 136 (zI (a : Int)) (zI (b : Int)) = some (zI (tW B n p : Nat), K) ∧ RRd K B n (tE B n p) x ∧ FRl J K) ∧ (¬ (tK B n p = 1 ∧ a ≤ tW B n p ∧ tW B n p ≤ b) → ∃ K, FX12_wordIn J M 136 (zI (a : Int)) (zI (b : Int)) = some (0, K) ∧ WWr K (tS B n p) ∧ FRl J K) := by
  have R0 := R
  obtain ⟨r1, r2, ⟨a3, a4, a5, a6, a7⟩, r4, r5, r6, r7, r8⟩ := R0
  have k4 := tK_le (B := B) (n := n) (p := p)
  have rl := rK_le (k := tK B n p) (w := tW B n p)
  have wl : tW B n p ≤ 99 := (wcd_le _ _).1
  obtain ⟨K0, e0, W0, F0⟩ := r_ends (M := M) r4 a4
  unfold FX12_wordIn FX12_wordIn_j27
  rw [if_pos r4]
  refine ⟨fun h => ?_, fun h => ?_⟩
  · obtain ⟨K, e, F, A⟩ := r_adv (M := M) r1 (tE_le r2) a3
    rw [if_pos (by rw [a5, (rK_3 k4).2 ⟨h.1, by omega⟩]; rfl), a7 h.1, zlet, r_isIn _ _ (by omega) (by omega) (by omega), decide_eq_true (by omega), if_neg tb1, e, obind]
    exact ⟨K, rfl, R.nx (by omega) F A, F.rl⟩
  · by_cases g : rK (tK B n p) (tW B n p) = 3
    · have g1 := (rK_3 k4).1 g
      rw [if_pos (by rw [a5, g]; rfl), a7 g1.1, zlet, r_isIn _ _ (by omega) (by omega) (by omega), decide_eq_false (by omega), if_pos (show tq_b false = 0 from rfl), e0, obind]
      exact ⟨K0, rfl, W0, F0⟩
    · rw [if_neg (by rw [a5, zI_lit, zI_eq (by omega) (by omega)]; omega), e0, obind]
      exact ⟨K0, rfl, W0, F0⟩
end RL
