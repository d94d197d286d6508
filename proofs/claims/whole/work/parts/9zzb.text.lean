/-! TEXT: what is kept, in both. -/
section KP
variable {I X : tq_PI} {L Y : tq_PL}
theorem hv_keep (V : HV I L 1 0) (h0 : X 137 0 = I 137 0) (h3 : X 3 0 = I 3 0) (hc : ∀ i, i < 2 → X (8 + 10 * i) = I (8 + 10 * i) ∧ Y (8 + 10 * i) = L (8 + 10 * i)) (ha : ∀ j, 610 ≤ j → j < 710 → X 137 j = I 137 j) : HV X Y 1 0 := by
  obtain ⟨m, m2, a, b, hh⟩ := V
  refine ⟨m, m2, h0.trans a, h3.trans b, fun i hi => ?_⟩
  obtain ⟨w, h, K, H, ⟨a1, a2, a3⟩, S⟩ := hh i hi
  have e : 1 + 7 + 10 * i = 8 + 10 * i := by omega
  rw [e] at H ⊢
  have h48 := wh_le H.k
  refine ⟨w, h, K, H.re (hc i (by omega)).1 (hc i (by omega)).2, ⟨?_, ?_, fun c hc2 => ?_⟩, S⟩
  · exact (ha _ (by omega) (by omega)).trans a1
  · exact (ha _ (by omega) (by omega)).trans a2
  · exact (ha _ (by omega) (by omega)).trans (a3 c hc2)
theorem yv_keep (V : YV I 1 0) (h0 : X 137 1 = I 137 1) (h3 : X 3 1 = I 3 1) (hc : ∀ i, i < 2 → X (9 + 10 * i) = I (9 + 10 * i) ∧ X (9 + 10 * i + 1) = I (9 + 10 * i + 1) ∧ X (9 + 10 * i + 2) = I (9 + 10 * i + 2) ∧ X (9 + 10 * i + 3) = I (9 + 10 * i + 3)) (ha : ∀ j, 710 ≤ j → j < 952 → X 137 j = I 137 j) : YV X 1 0 := by
  obtain ⟨m, m2, a, b, hh⟩ := V
  refine ⟨m, m2, h0.trans a, h3.trans b, fun i hi => ?_⟩
  obtain ⟨n, yk, yf, ys, d1, d2, d3, d4⟩ := hh i hi
  have e : 1 + 8 + 10 * i = 9 + 10 * i := by omega
  obtain ⟨c0, c1, c2, c3⟩ := hc i (by omega)
  refine ⟨n, yk, yf, ys, d1, ?_, (ha _ (by omega) (by omega)).trans d3, fun k hk => ?_⟩
  · rw [e] at d2 ⊢; rw [c0]; exact d2
  · obtain ⟨f1, f2, f3, f4, f5, f6, f7, f8, f9⟩ := d4 k hk
    rw [e] at f4 f5 f6 ⊢
    exact ⟨f1, f2, f3, by rw [c1]; exact f4, by rw [c2]; exact f5, by rw [c3]; exact f6, (ha _ (by omega) (by omega)).trans f7, (ha _ (by omega) (by omega)).trans f8, (ha _ (by omega) (by omega)).trans f9⟩
theorem lv_keep (V : LV I 1 0) (h0 : X 137 2 = I 137 2) (h3 : X 3 2 = I 3 2) (hc : ∀ i, i < 2 → X (13 + 10 * i) = I (13 + 10 * i) ∧ X (13 + 10 * i + 1) = I (13 + 10 * i + 1) ∧ X (13 + 10 * i + 2) = I (13 + 10 * i + 2)) (ha : ∀ j, 952 ≤ j → j < 986 → X 137 j = I 137 j) : LV X 1 0 := by
  obtain ⟨m, m2, a, b, hh⟩ := V
  refine ⟨m, m2, h0.trans a, h3.trans b, fun i hi => ?_⟩
  obtain ⟨n, lc, lh, d1, d2, d3, d4⟩ := hh i hi
  have e : 1 + 12 + 10 * i = 13 + 10 * i := by omega
  obtain ⟨c0, c1, c2⟩ := hc i (by omega)
  refine ⟨n, lc, lh, d1, ?_, (ha _ (by omega) (by omega)).trans d3, fun k hk => ?_⟩
  · rw [e] at d2 ⊢; rw [c0]; exact d2
  · obtain ⟨f1, f2, f3, f4, f5, f6⟩ := d4 k hk
    rw [e] at f3 f4 ⊢
    exact ⟨f1, f2, by rw [c1]; exact f3, by rw [c2]; exact f4, (ha _ (by omega) (by omega)).trans f5, (ha _ (by omega) (by omega)).trans f6⟩
theorem tv_keep (V : TV I 1 0) (h0 : X 137 3 = I 137 3) (h3 : X 3 3 = I 3 3) (hc : ∀ i, i < 2 → X (16 + 10 * i) = I (16 + 10 * i) ∧ X (16 + 10 * i + 1) = I (16 + 10 * i + 1)) (ha : ∀ j, 986 ≤ j → j < 1004 → X 137 j = I 137 j) : TV X 1 0 := by
  obtain ⟨m, m2, a, b, hh⟩ := V
  refine ⟨m, m2, h0.trans a, h3.trans b, fun i hi => ?_⟩
  obtain ⟨n, tw, d1, d2, d3, d4⟩ := hh i hi
  have e : 1 + 15 + 10 * i = 16 + 10 * i := by omega
  obtain ⟨c0, c1⟩ := hc i (by omega)
  refine ⟨n, tw, d1, ?_, (ha _ (by omega) (by omega)).trans d3, fun k hk => ?_⟩
  · rw [e] at d2 ⊢; rw [c0]; exact d2
  · obtain ⟨f1, f2, f3⟩ := d4 k hk
    rw [e] at f2 ⊢
    exact ⟨f1, by rw [c1]; exact f2, (ha _ (by omega) (by omega)).trans f3⟩
/-- one more, or one in another's place -/
def mx (m k : Nat) : Nat := if m < k + 1 then k + 1 else m
theorem mx_le {m k : Nat} (h : m ≤ 2) (hk : k < 2) : mx m k ≤ 2 := by unfold mx; split <;> omega
theorem mx_in {m k i : Nat} (h : k ≤ m) (hi : i < mx m k) (q : i ≠ k) : i < m := by
  unfold mx at hi
  split at hi <;> omega
theorem hv_new {k : Nat} (V : HV I L 1 0) (hk : k < 2) (hm : ∀ m : Nat, m ≤ 2 → I 137 0 = zI (m : Int) → k ≤ m ∧ X 137 0 = zI (mx m k : Nat) ∧ X 3 0 = zI (mx m k : Nat)) (hc : ∀ i, i < 2 → i ≠ k → X (8 + 10 * i) = I (8 + 10 * i) ∧ Y (8 + 10 * i) = L (8 + 10 * i)) (ha : ∀ j, 610 ≤ j → j < 710 → (j < 610 + 50 * k ∨ 660 + 50 * k ≤ j) → X 137 j = I 137 j) {w h : Nat} {K : Nat → Nat} (H : HC X Y (8 + 10 * k) w h K) (A : HA (fun j => X 137 (0 + j)) k w h K) (S : Stn h K) : HV X Y 1 0 := by
  obtain ⟨m, m2, a, b, hh⟩ := V
  obtain ⟨km, e1, e2⟩ := hm m m2 a
  refine ⟨mx m k, mx_le m2 hk, e1, e2, fun i hi => ?_⟩
  have i2 := mx_le m2 hk
  have e : 1 + 7 + 10 * i = 8 + 10 * i := by omega
  rw [e]
  by_cases q : i = k
  · subst q
    exact ⟨w, h, K, H, A, S⟩
  · obtain ⟨w, h, K, H, ⟨a1, a2, a3⟩, S⟩ := hh i (mx_in km hi q)
    rw [e] at H
    have h48 := wh_le H.k
    refine ⟨w, h, K, H.re (hc i (by omega) q).1 (hc i (by omega) q).2, ⟨?_, ?_, fun c hc2 => ?_⟩, S⟩
    · exact (ha _ (by omega) (by omega) (by omega)).trans a1
    · exact (ha _ (by omega) (by omega) (by omega)).trans a2
    · exact (ha _ (by omega) (by omega) (by omega)).trans (a3 c hc2)
theorem yv_new {k : Nat} (V : YV I 1 0) (hk : k < 2) (hm : ∀ m : Nat, m ≤ 2 → I 137 1 = zI (m : Int) → k ≤ m ∧ X 137 1 = zI (mx m k : Nat) ∧ X 3 1 = zI (mx m k : Nat)) (hc : ∀ i, i < 2 → i ≠ k → X (9 + 10 * i) = I (9 + 10 * i) ∧ X (9 + 10 * i + 1) = I (9 + 10 * i + 1) ∧ X (9 + 10 * i + 2) = I (9 + 10 * i + 2) ∧ X (9 + 10 * i + 3) = I (9 + 10 * i + 3)) (ha : ∀ j, 710 ≤ j → j < 952 → (j < 710 + 121 * k ∨ 831 + 121 * k ≤ j) → X 137 j = I 137 j) {n : Nat} {yk yf ys : Nat → Nat} (D : YD X (9 + 10 * k) (fun j => X 137 (0 + j)) (710 + 121 * k) n yk yf ys) : YV X 1 0 := by
  obtain ⟨m, m2, a, b, hh⟩ := V
  obtain ⟨km, e1, e2⟩ := hm m m2 a
  refine ⟨mx m k, mx_le m2 hk, e1, e2, fun i hi => ?_⟩
  have i2 := mx_le m2 hk
  have e : 1 + 8 + 10 * i = 9 + 10 * i := by omega
  rw [e]
  by_cases q : i = k
  · subst q
    exact ⟨n, yk, yf, ys, D⟩
  · obtain ⟨n, yk, yf, ys, d1, d2, d3, d4⟩ := hh i (mx_in km hi q)
    obtain ⟨c0, c1, c2, c3⟩ := hc i (by omega) q
    rw [e] at d2 d4
    refine ⟨n, yk, yf, ys, d1, by rw [c0]; exact d2, (ha _ (by omega) (by omega) (by omega)).trans d3, fun k hk => ?_⟩
    obtain ⟨f1, f2, f3, f4, f5, f6, f7, f8, f9⟩ := d4 k hk
    exact ⟨f1, f2, f3, by rw [c1]; exact f4, by rw [c2]; exact f5, by rw [c3]; exact f6, (ha _ (by omega) (by omega) (by omega)).trans f7, (ha _ (by omega) (by omega) (by omega)).trans f8, (ha _ (by omega) (by omega) (by omega)).trans f9⟩
theorem lv_new {k : Nat} (V : LV I 1 0) (hk : k < 2) (hm : ∀ m : Nat, m ≤ 2 → I 137 2 = zI (m : Int) → k ≤ m ∧ X 137 2 = zI (mx m k : Nat) ∧ X 3 2 = zI (mx m k : Nat)) (hc : ∀ i, i < 2 → i ≠ k → X (13 + 10 * i) = I (13 + 10 * i) ∧ X (13 + 10 * i + 1) = I (13 + 10 * i + 1) ∧ X (13 + 10 * i + 2) = I (13 + 10 * i + 2)) (ha : ∀ j, 952 ≤ j → j < 986 → (j < 952 + 17 * k ∨ 969 + 17 * k ≤ j) → X 137 j = I 137 j) {n : Nat} {lc lh : Nat → Nat} (D : LD X (13 + 10 * k) (fun j => X 137 (0 + j)) (952 + 17 * k) n lc lh) : LV X 1 0 := by
  obtain ⟨m, m2, a, b, hh⟩ := V
  obtain ⟨km, e1, e2⟩ := hm m m2 a
  refine ⟨mx m k, mx_le m2 hk, e1, e2, fun i hi => ?_⟩
  have i2 := mx_le m2 hk
  have e : 1 + 12 + 10 * i = 13 + 10 * i := by omega
  rw [e]
  by_cases q : i = k
  · subst q
    exact ⟨n, lc, lh, D⟩
  · obtain ⟨n, lc, lh, d1, d2, d3, d4⟩ := hh i (mx_in km hi q)
    obtain ⟨c0, c1, c2⟩ := hc i (by omega) q
    rw [e] at d2 d4
    refine ⟨n, lc, lh, d1, by rw [c0]; exact d2, (ha _ (by omega) (by omega) (by omega)).trans d3, fun k hk => ?_⟩
    obtain ⟨f1, f2, f3, f4, f5, f6⟩ := d4 k hk
    exact ⟨f1, f2, by rw [c1]; exact f3, by rw [c2]; exact f4, (ha _ (by omega) (by omega) (by omega)).trans f5, (ha _ (by omega) (by omega) (by omega)).trans f6⟩
theorem tv_new {k : Nat} (V : TV I 1 0) (hk : k < 2) (hm : ∀ m : Nat, m ≤ 2 → I 137 3 = zI (m : Int) → k ≤ m ∧ X 137 3 = zI (mx m k : Nat) ∧ X 3 3 = zI (mx m k : Nat)) (hc : ∀ i, i < 2 → i ≠ k → X (16 + 10 * i) = I (16 + 10 * i) ∧ X (16 + 10 * i + 1) = I (16 + 10 * i + 1)) (ha : ∀ j, 986 ≤ j → j < 1004 → (j < 986 + 9 * k ∨ 995 + 9 * k ≤ j) → X 137 j = I 137 j) {n : Nat} {tw : Nat → Nat} (D : TD X (16 + 10 * k) (fun j => X 137 (0 + j)) (986 + 9 * k) n tw) : TV X 1 0 := by
  obtain ⟨m, m2, a, b, hh⟩ := V
  obtain ⟨km, e1, e2⟩ := hm m m2 a
  refine ⟨mx m k, mx_le m2 hk, e1, e2, fun i hi => ?_⟩
  have i2 := mx_le m2 hk
  have e : 1 + 15 + 10 * i = 16 + 10 * i := by omega
  rw [e]
  by_cases q : i = k
  · subst q
    exact ⟨n, tw, D⟩
  · obtain ⟨n, tw, d1, d2, d3, d4⟩ := hh i (mx_in km hi q)
    obtain ⟨c0, c1⟩ := hc i (by omega) q
    rw [e] at d2 d4
    refine ⟨n, tw, d1, by rw [c0]; exact d2, (ha _ (by omega) (by omega) (by omega)).trans d3, fun k hk => ?_⟩
    obtain ⟨f1, f2, f3⟩ := d4 k hk
    exact ⟨f1, by rw [c1]; exact f2, (ha _ (by omega) (by omega) (by omega)).trans f3⟩
end KP
/-! the class's keep -/
theorem rg_0_3 : tq_rg 0 3 = 30 := by decide +kernel
section CK
variable {I : tq_PI} {L : tq_PL} {s k m : Nat}
theorem c_note (hs : s < 4) (hk : k < 2) (hm : m ≤ 2) (h : I 3 s = zI (m : Int)) : FX0_noteKept I L 1 (zI (s : Int)) (zI (k : Int)) = some (tq_up2 I 3 s (zI (mx m k : Nat))) := by
  have en : (zI (s : Int)).toNatClampNeg = s := by rw [zI_cl (by omega), Int.toNat_natCast]
  have ic : (0 : Int32) ≤ zI (s : Int) ∧ zI (s : Int) < 4 := ⟨by rw [show (0 : Int32) = zI 0 from rfl, zI_le (by omega) (by omega)]; omega, by rw [zI_lit, zI_lt (by omega) (by omega)]; omega⟩
  unfold FX0_noteKept mx
  rw [if_neg (by rw [show (0 : Int32) = zI 0 from rfl, zI_lt (by omega) (by omega)]; omega), if_neg (by rw [zI_lit, zI_le (by omega) (by omega)]; omega), if_pos ic, if_pos ic, rg_1_4, en, h, z_suc]
  by_cases g : m < k + 1
  · rw [if_pos (by rw [zI_lt (by omega) (by omega)]; omega), if_pos g]
  · rw [if_neg (by rw [zI_lt (by omega) (by omega)]; omega), if_neg g]
theorem k2c (hk : k < 2) : (¬ zI (k : Int) < 0) ∧ (¬ (2 : Int32) ≤ zI (k : Int)) ∧ ((0 : Int32) ≤ zI (k : Int) ∧ zI (k : Int) < 2) ∧ (zI (k : Int)).toNatClampNeg = k := ⟨by rw [show (0 : Int32) = zI 0 from rfl, zI_lt (by omega) (by omega)]; omega, by rw [zI_lit, zI_le (by omega) (by omega)]; omega, ⟨by rw [show (0 : Int32) = zI 0 from rfl, zI_le (by omega) (by omega)]; omega, by rw [zI_lit, zI_lt (by omega) (by omega)]; omega⟩, by rw [zI_cl (by omega), Int.toNat_natCast]⟩
theorem c_keep0 (hk : k < 2) (hm : m ≤ 2) (h : I 3 0 = zI (m : Int)) : ∃ I2 L2, FX11_keep I L 0 (zI ((0 : Nat) : Int)) (zI (k : Int)) = some (zI (k : Int), I2, L2) ∧ I2 3 0 = zI (mx m k : Nat) ∧ (∀ j, j ≠ 0 → I2 3 j = I 3 j) ∧ (I2 (8 + 10 * k) 0 = I 32 0 ∧ I2 (8 + 10 * k) 1 = I 32 1 ∧ ∀ j, 2 ≤ j → j ≤ 9 → L2 (8 + 10 * k) j = L 32 j) ∧ (∀ c, c ≠ 3 → c ≠ 8 + 10 * k → I2 c = I c) ∧ ∀ c, c ≠ 8 + 10 * k → L2 c = L c := by
  obtain ⟨q1, q2, q3, q4⟩ := k2c hk
  obtain ⟨hL, fL⟩ := c_takeL (I := I) (L := L) (a := 32) (b := 8 + 10 * k) (by omega)
  obtain ⟨h0, h1, fI⟩ := c_takeI (I := I) (L := L) (a := 32) (b := 8 + 10 * k) (by omega)
  obtain ⟨T, hT⟩ : ∃ T, T = FX3_take I L (8 + 10 * k) 32 := ⟨_, rfl⟩
  rw [← hT] at hL fL h0 h1 fI
  obtain ⟨I1, L2⟩ := T
  dsimp only at hL fL h0 h1 fI
  have en := c_note (I := I1) (L := L2) (s := 0) (by omega) hk hm (by rw [fI 3 (by omega)]; exact h)
  have en' : FX0_noteKept I1 L2 1 (0 : Int32) (zI (k : Int)) = some (tq_up2 I1 3 0 (zI (mx m k : Nat))) := en
  refine ⟨tq_up2 I1 3 0 (zI (mx m k : Nat)), L2, ?_, by rw [up_s], fun j hj => by rw [up_n _ _ (by omega), fI 3 (by omega)], ⟨by rw [up_row (by omega)]; exact h0, by rw [up_row (by omega)]; exact h1, hL⟩, fun c c1 c2 => by rw [up_row c1, fI c c2], fun c c1 => fL c c1⟩
  unfold FX11_keep FX0_keepHill FX11_keep_j97
  rw [if_pos (by decide), rg_0_0, rg_0_3, rg_30.1, if_neg q1, if_neg q2, if_pos q3, zlet, rg_1_5, q4, rg_4 k hk, ← hT]
  dsimp only
  rw [en', obind, obind]
theorem c_keep1 (hk : k < 2) (hm : m ≤ 2) (h : I 3 1 = zI (m : Int)) : ∃ I2, FX11_keep I L 0 (zI ((1 : Nat) : Int)) (zI (k : Int)) = some (zI (k : Int), I2, L) ∧ I2 3 1 = zI (mx m k : Nat) ∧ (∀ j, j ≠ 1 → I2 3 j = I 3 j) ∧ (I2 (9 + 10 * k) 0 = I 33 0 ∧ ∀ j, j < 40 → I2 (9 + 10 * k + 1) j = I 34 j ∧ I2 (9 + 10 * k + 2) j = I 35 j ∧ I2 (9 + 10 * k + 3) j = I 36 j) ∧ ∀ c, c ≠ 3 → (c < 9 + 10 * k ∨ 13 + 10 * k ≤ c) → I2 c = I c := by
  obtain ⟨q1, q2, q3, q4⟩ := k2c hk
  obtain ⟨y1, y2, y3⟩ := rg_y k hk
  obtain ⟨I1, e1, a1, b1, f1⟩ := c_take10 (I := I) L (a := 33) (b := 9 + 10 * k) rg_40.2.2.2.1 rg_40.2.2.2.2.1 rg_40.2.2.2.2.2 y1 y2 y3 (by omega)
  have en := c_note (I := I1) (L := L) (s := 1) (by omega) hk hm (by rw [f1 3 (by omega)]; exact h)
  have en' : FX0_noteKept I1 L 1 (1 : Int32) (zI (k : Int)) = some (tq_up2 I1 3 1 (zI (mx m k : Nat))) := en
  refine ⟨tq_up2 I1 3 1 (zI (mx m k : Nat)), ?_, by rw [up_s], fun j hj => by rw [up_n _ _ (by omega), f1 3 (by omega)], ⟨by rw [up_row (by omega)]; exact a1, fun j hj => ?_⟩, fun c c1 c2 => by rw [up_row c1, f1 c (by omega)]⟩
  · unfold FX11_keep FX0_keepYear FX11_keep_j97
    rw [if_neg (by decide), if_pos (by decide), rg_0_0, rg_0_3, rg_30.2.1, if_neg q1, if_neg q2, if_pos q3, rg_1_6, q4, rg_5 k hk, e1, obind, en', obind, obind]
  · rw [up_row (by omega), up_row (by omega), up_row (by omega)]; exact b1 j hj
theorem c_keep2 (hk : k < 2) (hm : m ≤ 2) (h : I 3 2 = zI (m : Int)) : ∃ I2, FX11_keep I L 0 (zI ((2 : Nat) : Int)) (zI (k : Int)) = some (zI (k : Int), I2, L) ∧ I2 3 2 = zI (mx m k : Nat) ∧ (∀ j, j ≠ 2 → I2 3 j = I 3 j) ∧ (I2 (13 + 10 * k) 0 = I 37 0 ∧ ∀ j, j < 8 → I2 (13 + 10 * k + 1) j = I 38 j ∧ I2 (13 + 10 * k + 2) j = I 39 j) ∧ ∀ c, c ≠ 3 → (c < 13 + 10 * k ∨ 16 + 10 * k ≤ c) → I2 c = I c := by
  obtain ⟨q1, q2, q3, q4⟩ := k2c hk
  have z7 : tq_rg 1 7 = 6 := by decide +kernel
  have z6 : ∀ i, i < 2 → tq_rg 6 i = 13 + 10 * i ∧ tq_rg (13 + 10 * i) 1 = 13 + 10 * i + 1 ∧ tq_rg (13 + 10 * i) 2 = 13 + 10 * i + 2 := by decide +kernel
  obtain ⟨y0, y1, y2⟩ := z6 k hk
  obtain ⟨I1, e1, a1, b1, f1⟩ := c_take4 (I := I) L (a := 37) (b := 13 + 10 * k) rg_40.2.1 rg_40.2.2.1 y1 y2 (by omega)
  have en := c_note (I := I1) (L := L) (s := 2) (by omega) hk hm (by rw [f1 3 (by omega)]; exact h)
  have en' : FX0_noteKept I1 L 1 (2 : Int32) (zI (k : Int)) = some (tq_up2 I1 3 2 (zI (mx m k : Nat))) := en
  refine ⟨tq_up2 I1 3 2 (zI (mx m k : Nat)), ?_, by rw [up_s], fun j hj => by rw [up_n _ _ (by omega), f1 3 (by omega)], ⟨by rw [up_row (by omega)]; exact a1, fun j hj => ?_⟩, fun c c1 c2 => by rw [up_row c1, f1 c (by omega)]⟩
  · unfold FX11_keep FX0_keepLog FX11_keep_j97
    rw [if_neg (by decide), if_neg (by decide), if_pos (by decide), rg_0_0, rg_0_3, rg_30.2.2.1, if_neg q1, if_neg q2, if_pos q3, z7, q4, y0, e1, obind, en', obind, obind]
  · rw [up_row (by omega), up_row (by omega)]; exact b1 j hj
theorem c_keep3 (hk : k < 2) (hm : m ≤ 2) (h : I 3 3 = zI (m : Int)) : ∃ I2, FX11_keep I L 0 (zI ((3 : Nat) : Int)) (zI (k : Int)) = some (zI (k : Int), I2, L) ∧ I2 3 3 = zI (mx m k : Nat) ∧ (∀ j, j ≠ 3 → I2 3 j = I 3 j) ∧ (I2 (16 + 10 * k) 0 = I 40 0 ∧ ∀ j, j < 8 → I2 (16 + 10 * k + 1) j = I 41 j) ∧ ∀ c, c ≠ 3 → (c < 16 + 10 * k ∨ 18 + 10 * k ≤ c) → I2 c = I c := by
  obtain ⟨q1, q2, q3, q4⟩ := k2c hk
  obtain ⟨I1, e1, a1, b1, f1⟩ := c_take9 (I := I) L (a := 40) (b := 16 + 10 * k) rg_40.1 (rg_t k hk) (by omega)
  have en := c_note (I := I1) (L := L) (s := 3) (by omega) hk hm (by rw [f1 3 (by omega)]; exact h)
  have en' : FX0_noteKept I1 L 1 (3 : Int32) (zI (k : Int)) = some (tq_up2 I1 3 3 (zI (mx m k : Nat))) := en
  refine ⟨tq_up2 I1 3 3 (zI (mx m k : Nat)), ?_, by rw [up_s], fun j hj => by rw [up_n _ _ (by omega), f1 3 (by omega)], ⟨by rw [up_row (by omega)]; exact a1, fun j hj => ?_⟩, fun c c1 c2 => by rw [up_row c1, f1 c (by omega)]⟩
  · unfold FX11_keep FX0_keepTalk FX11_keep_j97
    rw [if_neg (by decide), if_neg (by decide), if_neg (by decide), rg_0_0, rg_0_3, rg_30.2.2.2, if_neg q1, if_neg q2, if_pos q3, rg_1_8, q4, rg_7 k hk, e1, obind, en', obind, obind]
  · rw [up_row (by omega)]; exact b1 j hj
end CK
/-! the reference's keep -/
def szt (s : Nat) : Nat := if s = 0 then 50 else if s = 1 then 121 else if s = 2 then 17 else 9
def pct (s k : Nat) : Nat := if s = 0 then 610 + 50 * k else if s = 1 then 710 + 121 * k else if s = 2 then 952 + 17 * k else 986 + 9 * k
theorem r_copt {J : tq_PI} {M : tq_PL} {s k : Nat} (hs : s < 4) (hk : k < 2) : ∃ K, FX12_text_j241 J M 136 (zI (s : Int)) (zI (k : Int)) = some (zI (k : Int), K) ∧ (∀ b, b ≠ 137 → K b = J b) ∧ (∀ i, i < szt s → K 137 (pct s k + i) = J 139 i) ∧ ∀ j, (j < pct s k ∨ pct s k + szt s ≤ j) → K 137 j = J 137 j := by
  have e1 : ∀ I : tq_PI, FX12_sizeOf I M (zI (s : Int)) = zI (szt s : Nat) := fun I => by
    rcases (by omega : s = 0 ∨ s = 1 ∨ s = 2 ∨ s = 3) with rfl | rfl | rfl | rfl <;> rfl
  have e2 : ∀ I : tq_PI, FX12_placeOf I M (zI (s : Int)) (zI (k : Int)) = zI (pct s k : Nat) := fun I => by
    rcases (by omega : k = 0 ∨ k = 1) with rfl | rfl <;> rcases (by omega : s = 0 ∨ s = 1 ∨ s = 2 ∨ s = 3) with rfl | rfl | rfl | rfl <;> rfl
  have b1 : szt s ≤ 121 := by unfold szt; repeat' (first | omega | split)
  have b2 : pct s k + szt s ≤ 1004 := by unfold szt pct; repeat' (first | omega | split)
  obtain ⟨K, e, F, V, W⟩ := it_for (f := fun p : Int32 × tq_PI => FX12_text_s244 p.2 M 136 (zI (s : Int)) (zI (k : Int)) p.1) (fun i (x : tq_PI) => (zI (i : Int), x)) (szt s) (fun i K => (∀ b, b ≠ 137 → K b = J b) ∧ (∀ t, t < i → K 137 (pct s k + t) = J 139 t) ∧ ∀ j, (j < pct s k ∨ pct s k + szt s ≤ j) → K 137 j = J 137 j) (Post := fun K => (∀ b, b ≠ 137 → K b = J b) ∧ (∀ t, t < szt s → K 137 (pct s k + t) = J 139 t) ∧ ∀ j, (j < pct s k ∨ pct s k + szt s ≤ j) → K 137 j = J 137 j) (fun i K hi hK => by
    obtain ⟨F, V, W⟩ := hK
    have en : (zI (i : Int)).toNatClampNeg = i := by rw [zI_cl (by omega), Int.toNat_natCast]
    have ep : zI (pct s k : Nat) + zI (i : Int) = zI ((pct s k + i : Nat) : Int) := by rw [zI_add, Int.natCast_add]
    have en2 : (zI ((pct s k + i : Nat) : Int)).toNatClampNeg = pct s k + i := by rw [zI_cl (by omega), Int.toNat_natCast]
    dsimp only
    unfold FX12_text_s244
    rw [zlet, e1, zlet, e2, ep, if_neg (by rw [zI_le (by omega) (by omega)]; omega), if_pos ⟨by rw [show (0 : Int32) = zI 0 from rfl, zI_le (by omega) (by omega)]; omega, by rw [zI_lit, zI_lt (by omega) (by omega)]; omega⟩, if_pos ⟨by rw [show (0 : Int32) = zI 0 from rfl, zI_le (by omega) (by omega)]; omega, by rw [zI_lit, zI_lt (by omega) (by omega)]; omega⟩, g0, g11, en, en2, z_suc]
    refine Or.inl ⟨_, rfl, fun b hb => by rw [up_row hb]; exact F b hb, fun t ht => ?_, fun j hj => by rw [up_n _ _ (by omega)]; exact W j hj⟩
    by_cases q : t = i
    · subst q; rw [up_s, F 139 (by omega)]
    · rw [up_n _ _ (by omega)]; exact V t (by omega)) (fun K hK => ⟨K, by
    dsimp only
    unfold FX12_text_s244
    rw [zlet, e1, if_pos (by rw [zI_le (by omega) (by omega)]; omega)], hK⟩) 0 J (by omega) (by omega) ⟨fun _ _ => rfl, fun t ht => by omega, fun _ _ => rfl⟩
  have e' : tq_it (fun p : Int32 × tq_PI => FX12_text_s244 p.2 M 136 (zI (s : Int)) (zI (k : Int)) p.1) tq_N ((0 : Int32), J) = some K := e
  refine ⟨K, ?_, F, V, W⟩
  unfold FX12_text_j241
  rw [e', obind]
