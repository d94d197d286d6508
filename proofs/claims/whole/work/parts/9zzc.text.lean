/-! TEXT: the call text in both. -/
def TX (I : tq_PI) (L : tq_PL) (I2 : tq_PI) (L2 : tq_PL) (J J2 : tq_PI) : Prop := (∀ c, psl c → (c < 1 ∨ 28 ≤ c) → I2 c = I c) ∧ (∀ c, psl c → (c < 1 ∨ 28 ≤ c) → L2 c = L c) ∧ (∀ c, psl c → c ≠ 137 → J2 c = J c) ∧ (∀ j, 1004 ≤ j → J2 137 j = J 137 j) ∧ ∀ X Y, (∀ c, 1 ≤ c → c < 28 → X c = I2 c) → (∀ c, 1 ≤ c → c < 28 → Y c = L2 c) → X 137 = J2 137 → BK X Y 1 0
section TT
variable {I J : tq_PI} {L M : tq_PL}
/-- a book whose tape is taken, nothing else -/
theorem BK.tx {I2 J2 : tq_PI} {L2 : tq_PL} (V : BK I L 1 0) (hJ : J 137 = I 137) (c1 : I2 1 1 = 0) (c2 : I2 1 2 = J2 137 5) (c3 : I2 1 3 = J2 137 6) (j4 : J2 137 4 = 0) (fI : ∀ c, psl c → c ≠ 1 → I2 c = I c) (fL : ∀ c, psl c → L2 c = L c) (fJ : ∀ c, psl c → c ≠ 137 → J2 c = J c) (f7 : ∀ j, j ≠ 4 → j ≠ 5 → j ≠ 6 → J2 137 j = J 137 j) : TX I L I2 L2 J J2 := by
  refine ⟨fun c hc h => fI c hc (by omega), fun c hc _ => fL c hc, fJ, fun j hj => f7 j (by omega) (by omega) (by omega), fun X Y hX hY h7 => ?_⟩
  have pX : ∀ c, 2 ≤ c → c < 28 → X c = I c := fun c h1 h2 => by rw [hX c (by omega) h2, fI c (by unfold psl; omega) (by omega)]
  have pY : ∀ c, 2 ≤ c → c < 28 → Y c = L c := fun c h1 h2 => by rw [hY c (by omega) h2, fL c (by unfold psl; omega)]
  have p7 : ∀ j, j ≠ 4 → j ≠ 5 → j ≠ 6 → X 137 j = I 137 j := fun j h1 h2 h3 => by rw [h7, f7 j h1 h2 h3, hJ]
  obtain ⟨v1, v2, v3, v4, -, -⟩ := V
  refine ⟨hv_keep v1 (p7 0 (by omega) (by omega) (by omega)) (by rw [pX 3 (by omega) (by omega)]) (fun i hi => ⟨pX _ (by omega) (by omega), pY _ (by omega) (by omega)⟩) (fun j h1 h2 => p7 j (by omega) (by omega) (by omega)), yv_keep v2 (p7 1 (by omega) (by omega) (by omega)) (by rw [pX 3 (by omega) (by omega)]) (fun i hi => ⟨pX _ (by omega) (by omega), pX _ (by omega) (by omega), pX _ (by omega) (by omega), pX _ (by omega) (by omega)⟩) (fun j h1 h2 => p7 j (by omega) (by omega) (by omega)), lv_keep v3 (p7 2 (by omega) (by omega) (by omega)) (by rw [pX 3 (by omega) (by omega)]) (fun i hi => ⟨pX _ (by omega) (by omega), pX _ (by omega) (by omega), pX _ (by omega) (by omega)⟩) (fun j h1 h2 => p7 j (by omega) (by omega) (by omega)), tv_keep v4 (p7 3 (by omega) (by omega) (by omega)) (by rw [pX 3 (by omega) (by omega)]) (fun i hi => ⟨pX _ (by omega) (by omega), pX _ (by omega) (by omega)⟩) (fun j h1 h2 => p7 j (by omega) (by omega) (by omega)), ⟨?_, ?_, ?_⟩, 0, by omega, ?_, ?_, fun i hi => by omega⟩
  · rw [hX 1 (by omega) (by omega), h7, Nat.zero_add, c1, j4]
  · rw [hX 1 (by omega) (by omega), h7, Nat.zero_add, c2]
  · rw [hX 1 (by omega) (by omega), h7, Nat.zero_add, c3]
  · rw [hX 1 (by omega) (by omega), c1]; rfl
  · rw [h7, Nat.zero_add, j4]; rfl
theorem r_keep {s k m : Nat} {z : Int} (hs : s < 4) (hk : k < 2) (hm : m ≤ 2) (h5 : J 137 5 = 0) (h : J 137 s = zI (m : Int)) (hz : (z = -1 ∧ k = m) ∨ (z = k ∧ k < m)) : ∃ K, FX12_text_j199 J M 136 (zI (s : Int)) (zI z) = some (zI (k : Int), K) ∧ (∀ b, b ≠ 137 → K b = J b) ∧ K 137 s = zI (mx m k : Nat) ∧ (∀ i, i < szt s → K 137 (pct s k + i) = J 139 i) ∧ ∀ j, j ≠ s → (j < pct s k ∨ pct s k + szt s ≤ j) → K 137 j = J 137 j := by
  have en : (zI (s : Int)).toNatClampNeg = s := by rw [zI_cl (by omega), Int.toNat_natCast]
  have ic : (0 : Int32) ≤ zI (s : Int) ∧ zI (s : Int) < 4016 := ⟨by rw [show (0 : Int32) = zI 0 from rfl, zI_le (by omega) (by omega)]; omega, by rw [zI_lit, zI_lt (by omega) (by omega)]; omega⟩
  have b0 : 610 ≤ pct s k := by unfold pct; repeat' (first | omega | split)
  unfold FX12_text_j199 FX12_text_j225
  rw [if_pos i5, g0, e5n, if_pos h5, en]
  rcases hz with ⟨rfl, rfl⟩ | ⟨rfl, hkm⟩
  · obtain ⟨K, e, F, V, W⟩ := r_copt (J := tq_up2 J 137 s (zI ((k + 1 : Nat) : Int))) (M := M) hs hk
    rw [if_pos (show zI (-1) = (-1 : Int32) from rfl), if_pos ic, if_pos (show zI (-1) = (-1 : Int32) from rfl), if_pos ic, if_pos ic, h, z_suc]
    refine ⟨K, e, fun b hb => by rw [F b hb, up_row hb], ?_, fun i hi => by rw [V i hi, up_row (by omega)], fun j h1 h2 => by rw [W j h2, up_n _ _ (by omega)]⟩
    rw [W s (by omega), up_s]
    unfold mx
    rw [if_pos (by omega)]
  · obtain ⟨K, e, F, V, W⟩ := r_copt (J := J) (M := M) hs hk
    have nz : ¬ zI (k : Int) = (-1 : Int32) := by rw [show (-1 : Int32) = zI (-1) from rfl, zI_eq (by omega) (by omega)]; omega
    rw [if_neg nz, if_neg nz]
    refine ⟨K, e, F, ?_, V, fun j _ h2 => W j h2⟩
    rw [W s (by omega), h]
    unfold mx
    rw [if_neg (by omega)]
/-- the four sorts, once a text without a fault is kept -/
theorem BK.kp {I3 J3 Jf : tq_PI} {L3 : tq_PL} {s k m : Nat} (hs : s < 4) (hk : k < 2) (hm : m ≤ 2) (km : k ≤ m) (V : BK I L 1 0) (m3 : I 3 s = zI (m : Int)) (m7 : I 137 s = zI (m : Int)) (hJ : J 137 = I 137) (c1 : I3 1 1 = 0) (c2 : I3 1 2 = 0) (fI : ∀ c, psl c → c ≠ 1 → I3 c = I c) (fL : ∀ c, psl c → L3 c = L c) (D : DF s I3 L3 J3) (j6 : Jf 137 6 = I3 1 3) (j4 : Jf 137 4 = 0) (j5 : Jf 137 5 = 0) (fJ : ∀ c, psl c → c ≠ 137 → Jf c = J c) (js : Jf 137 s = zI (mx m k : Nat)) (jd : ∀ i, i < szt s → Jf 137 (pct s k + i) = J3 139 i) (f7 : ∀ j, j ≠ s → j ≠ 4 → j ≠ 5 → j ≠ 6 → (j < pct s k ∨ pct s k + szt s ≤ j) → Jf 137 j = J 137 j) : ∃ I2 L2, FX11_keep I3 L3 0 (zI (s : Int)) (zI (k : Int)) = some (zI (k : Int), I2, L2) ∧ TX I L I2 L2 J Jf := by
  have m3' : I3 3 s = zI (m : Int) := by rw [fI 3 (by unfold psl; omega) (by omega)]; exact m3
  have sz0 : szt 0 = 50 := rfl
  have sz1 : szt 1 = 121 := rfl
  have sz2 : szt 2 = 17 := rfl
  have sz3 : szt 3 = 9 := rfl
  have pc0 : pct 0 k = 610 + 50 * k := rfl
  have pc1 : pct 1 k = 710 + 121 * k := rfl
  have pc2 : pct 2 k = 952 + 17 * k := rfl
  have pc3 : pct 3 k = 986 + 9 * k := rfl
  have bl : pct s k + szt s ≤ 1004 ∧ 610 ≤ pct s k := by unfold pct szt; repeat' (first | omega | split)
  have f1004 : ∀ j, 1004 ≤ j → Jf 137 j = J 137 j := fun j hj => f7 j (by omega) (by omega) (by omega) (by omega) (by omega)
  obtain ⟨v1, v2, v3, v4, -, -⟩ := V
  have bk : ∀ (I2 : tq_PI) (L2 : tq_PL), I2 1 = I3 1 → (∀ X Y, (∀ c, 1 ≤ c → c < 28 → X c = I2 c) → (∀ c, 1 ≤ c → c < 28 → Y c = L2 c) → X 137 = Jf 137 → HV X Y 1 0 ∧ YV X 1 0 ∧ LV X 1 0 ∧ TV X 1 0) → ∀ X Y, (∀ c, 1 ≤ c → c < 28 → X c = I2 c) → (∀ c, 1 ≤ c → c < 28 → Y c = L2 c) → X 137 = Jf 137 → BK X Y 1 0 := fun I2 L2 h1 hv X Y hX hY h7 => by
    obtain ⟨w1, w2, w3, w4⟩ := hv X Y hX hY h7
    refine ⟨w1, w2, w3, w4, ⟨?_, ?_, ?_⟩, 0, by omega, ?_, ?_, fun i hi => by omega⟩
    · rw [hX 1 (by omega) (by omega), h7, h1, Nat.zero_add, c1, j4]
    · rw [hX 1 (by omega) (by omega), h7, h1, Nat.zero_add, c2, j5]
    · rw [hX 1 (by omega) (by omega), h7, h1, Nat.zero_add, j6]
    · rw [hX 1 (by omega) (by omega), h1, c1]; rfl
    · rw [h7, Nat.zero_add, j4]; rfl
  have hmx : ∀ (X : tq_PI) (t : Nat), t = s → X 137 = Jf 137 → X 3 s = zI (mx m k : Nat) → ∀ m' : Nat, m' ≤ 2 → I 137 t = zI (m' : Int) → k ≤ m' ∧ X 137 t = zI (mx m' k : Nat) ∧ X 3 t = zI (mx m' k : Nat) := fun X t ht h7 h3 m' h2 e => by
    subst ht
    have : m' = m := by
      rw [m7, zI_eq (by omega) (by omega)] at e
      omega
    subst this
    exact ⟨km, by rw [h7]; exact js, h3⟩
  rcases (by omega : s = 0 ∨ s = 1 ∨ s = 2 ∨ s = 3) with rfl | rfl | rfl | rfl
  · obtain ⟨w, h, K, H, S, a0, a1, a2⟩ := D.1 rfl
    obtain ⟨I2, L2, e, k1, k2, ⟨t0, t1, t2⟩, g1, g2⟩ := c_keep0 (L := L3) hk hm m3'
    rw [sz0] at jd f7
    rw [pc0] at jd f7
    have h48 := wh_le H.k
    refine ⟨I2, L2, e, fun c hc h => by rw [g1 c (by omega) (by omega), fI c hc (by omega)], fun c hc h => by rw [g2 c (by omega), fL c hc], fJ, f1004, bk I2 L2 (g1 1 (by omega) (by omega)) fun X Y hX hY h7 => ?_⟩
    have p7 : ∀ j, j ≠ 0 → j ≠ 4 → j ≠ 5 → j ≠ 6 → (j < 610 + 50 * k ∨ 610 + 50 * k + 50 ≤ j) → X 137 j = I 137 j := fun j q1 q2 q3 q4 q5 => by rw [h7, f7 j q1 q2 q3 q4 q5, hJ]
    have pX : ∀ c, 2 ≤ c → c < 28 → c ≠ 3 → c ≠ 8 + 10 * k → X c = I c := fun c q1 q2 q3 q4 => by rw [hX c (by omega) q2, g1 c q3 q4, fI c (by unfold psl; omega) (by omega)]
    have pY : ∀ c, 2 ≤ c → c < 28 → c ≠ 8 + 10 * k → Y c = L c := fun c q1 q2 q4 => by rw [hY c (by omega) q2, g2 c q4, fL c (by unfold psl; omega)]
    have p3 : ∀ j, j ≠ 0 → X 3 j = I 3 j := fun j hj => by rw [hX 3 (by omega) (by omega), k2 j hj, fI 3 (by unfold psl; omega) (by omega)]
    have H2 : HC X Y (8 + 10 * k) w h K := H.take (by rw [hX _ (by omega) (by omega)]; exact t0) (by rw [hX _ (by omega) (by omega)]; exact t1) (fun j q1 q2 => by rw [hY _ (by omega) (by omega)]; exact t2 j q1 q2)
    refine ⟨hv_new v1 hk (hmx X 0 rfl h7 (by rw [hX 3 (by omega) (by omega)]; exact k1)) (fun i hi q => ⟨pX _ (by omega) (by omega) (by omega) (by omega), pY _ (by omega) (by omega) (by omega)⟩) (fun j q1 q2 q3 => p7 j (by omega) (by omega) (by omega) (by omega) (by omega)) H2 ⟨?_, ?_, fun c hc => ?_⟩ S, yv_keep v2 (p7 1 (by omega) (by omega) (by omega) (by omega) (by omega)) (p3 1 (by omega)) (fun i hi => ⟨pX _ (by omega) (by omega) (by omega) (by omega), pX _ (by omega) (by omega) (by omega) (by omega), pX _ (by omega) (by omega) (by omega) (by omega), pX _ (by omega) (by omega) (by omega) (by omega)⟩) (fun j q1 q2 => p7 j (by omega) (by omega) (by omega) (by omega) (by omega)), lv_keep v3 (p7 2 (by omega) (by omega) (by omega) (by omega) (by omega)) (p3 2 (by omega)) (fun i hi => ⟨pX _ (by omega) (by omega) (by omega) (by omega), pX _ (by omega) (by omega) (by omega) (by omega), pX _ (by omega) (by omega) (by omega) (by omega)⟩) (fun j q1 q2 => p7 j (by omega) (by omega) (by omega) (by omega) (by omega)), tv_keep v4 (p7 3 (by omega) (by omega) (by omega) (by omega) (by omega)) (p3 3 (by omega)) (fun i hi => ⟨pX _ (by omega) (by omega) (by omega) (by omega), pX _ (by omega) (by omega) (by omega) (by omega)⟩) (fun j q1 q2 => p7 j (by omega) (by omega) (by omega) (by omega) (by omega))⟩
    · show X 137 (0 + (610 + 50 * k)) = _
      rw [h7, show 0 + (610 + 50 * k) = 610 + 50 * k + 0 by omega, jd 0 (by omega)]; exact a0
    · show X 137 (0 + (611 + 50 * k)) = _
      rw [h7, show 0 + (611 + 50 * k) = 610 + 50 * k + 1 by omega, jd 1 (by omega)]; exact a1
    · show X 137 (0 + (612 + 50 * k + c)) = _
      rw [h7, show 0 + (612 + 50 * k + c) = 610 + 50 * k + (2 + c) by omega, jd (2 + c) (by omega)]; exact a2 c hc
  · obtain ⟨n, yk, yf, ys, d1, d2, d3, d4⟩ := D.2.1 rfl
    obtain ⟨I2, e, k1, k2, ⟨t0, t1⟩, g1⟩ := c_keep1 (L := L3) hk hm m3'
    rw [sz1] at jd f7
    rw [pc1] at jd f7
    refine ⟨I2, L3, e, fun c hc h => by rw [g1 c (by omega) (by omega), fI c hc (by omega)], fun c hc h => fL c hc, fJ, f1004, bk I2 L3 (g1 1 (by omega) (by omega)) fun X Y hX hY h7 => ?_⟩
    have p7 : ∀ j, j ≠ 1 → j ≠ 4 → j ≠ 5 → j ≠ 6 → (j < 710 + 121 * k ∨ 710 + 121 * k + 121 ≤ j) → X 137 j = I 137 j := fun j q1 q2 q3 q4 q5 => by rw [h7, f7 j q1 q2 q3 q4 q5, hJ]
    have pX : ∀ c, 2 ≤ c → c < 28 → c ≠ 3 → (c < 9 + 10 * k ∨ 13 + 10 * k ≤ c) → X c = I c := fun c q1 q2 q3 q4 => by rw [hX c (by omega) q2, g1 c q3 q4, fI c (by unfold psl; omega) (by omega)]
    have pY : ∀ c, 2 ≤ c → c < 28 → Y c = L c := fun c q1 q2 => by rw [hY c (by omega) q2, fL c (by unfold psl; omega)]
    have p3 : ∀ j, j ≠ 1 → X 3 j = I 3 j := fun j hj => by rw [hX 3 (by omega) (by omega), k2 j hj, fI 3 (by unfold psl; omega) (by omega)]
    refine ⟨hv_keep v1 (p7 0 (by omega) (by omega) (by omega) (by omega) (by omega)) (p3 0 (by omega)) (fun i hi => ⟨pX _ (by omega) (by omega) (by omega) (by omega), pY _ (by omega) (by omega)⟩) (fun j q1 q2 => p7 j (by omega) (by omega) (by omega) (by omega) (by omega)), yv_new v2 hk (hmx X 1 rfl h7 (by rw [hX 3 (by omega) (by omega)]; exact k1)) (fun i hi q => ⟨pX _ (by omega) (by omega) (by omega) (by omega), pX _ (by omega) (by omega) (by omega) (by omega), pX _ (by omega) (by omega) (by omega) (by omega), pX _ (by omega) (by omega) (by omega) (by omega)⟩) (fun j q1 q2 q3 => p7 j (by omega) (by omega) (by omega) (by omega) (by omega)) (n := n) (yk := yk) (yf := yf) (ys := ys) ⟨d1, ?_, ?_, fun t ht => ?_⟩, lv_keep v3 (p7 2 (by omega) (by omega) (by omega) (by omega) (by omega)) (p3 2 (by omega)) (fun i hi => ⟨pX _ (by omega) (by omega) (by omega) (by omega), pX _ (by omega) (by omega) (by omega) (by omega), pX _ (by omega) (by omega) (by omega) (by omega)⟩) (fun j q1 q2 => p7 j (by omega) (by omega) (by omega) (by omega) (by omega)), tv_keep v4 (p7 3 (by omega) (by omega) (by omega) (by omega) (by omega)) (p3 3 (by omega)) (fun i hi => ⟨pX _ (by omega) (by omega) (by omega) (by omega), pX _ (by omega) (by omega) (by omega) (by omega)⟩) (fun j q1 q2 => p7 j (by omega) (by omega) (by omega) (by omega) (by omega))⟩
    · rw [hX _ (by omega) (by omega), t0]; exact d2
    · show X 137 (0 + (710 + 121 * k)) = _
      rw [h7, show 0 + (710 + 121 * k) = 710 + 121 * k + 0 by omega, jd 0 (by omega)]; exact d3
    · obtain ⟨x1, x2, x3, x4, x5, x6, x7, x8, x9⟩ := d4 t ht
      obtain ⟨u1, u2, u3⟩ := t1 t (by omega)
      refine ⟨x1, x2, x3, ?_, ?_, ?_, ?_, ?_, ?_⟩
      · rw [hX _ (by omega) (by omega), u1]; exact x4
      · rw [hX _ (by omega) (by omega), u2]; exact x5
      · rw [hX _ (by omega) (by omega), u3]; exact x6
      · show X 137 (0 + (710 + 121 * k + 1 + 3 * t)) = _
        rw [h7, show 0 + (710 + 121 * k + 1 + 3 * t) = 710 + 121 * k + (0 + 1 + 3 * t) by omega, jd _ (by omega)]; exact x7
      · show X 137 (0 + (710 + 121 * k + 2 + 3 * t)) = _
        rw [h7, show 0 + (710 + 121 * k + 2 + 3 * t) = 710 + 121 * k + (0 + 2 + 3 * t) by omega, jd _ (by omega)]; exact x8
      · show X 137 (0 + (710 + 121 * k + 3 + 3 * t)) = _
        rw [h7, show 0 + (710 + 121 * k + 3 + 3 * t) = 710 + 121 * k + (0 + 3 + 3 * t) by omega, jd _ (by omega)]; exact x9
  · obtain ⟨n, lc, lh, d1, d2, d3, d4⟩ := D.2.2.1 rfl
    obtain ⟨I2, e, k1, k2, ⟨t0, t1⟩, g1⟩ := c_keep2 (L := L3) hk hm m3'
    rw [sz2] at jd f7
    rw [pc2] at jd f7
    refine ⟨I2, L3, e, fun c hc h => by rw [g1 c (by omega) (by omega), fI c hc (by omega)], fun c hc h => fL c hc, fJ, f1004, bk I2 L3 (g1 1 (by omega) (by omega)) fun X Y hX hY h7 => ?_⟩
    have p7 : ∀ j, j ≠ 2 → j ≠ 4 → j ≠ 5 → j ≠ 6 → (j < 952 + 17 * k ∨ 952 + 17 * k + 17 ≤ j) → X 137 j = I 137 j := fun j q1 q2 q3 q4 q5 => by rw [h7, f7 j q1 q2 q3 q4 q5, hJ]
    have pX : ∀ c, 2 ≤ c → c < 28 → c ≠ 3 → (c < 13 + 10 * k ∨ 16 + 10 * k ≤ c) → X c = I c := fun c q1 q2 q3 q4 => by rw [hX c (by omega) q2, g1 c q3 q4, fI c (by unfold psl; omega) (by omega)]
    have pY : ∀ c, 2 ≤ c → c < 28 → Y c = L c := fun c q1 q2 => by rw [hY c (by omega) q2, fL c (by unfold psl; omega)]
    have p3 : ∀ j, j ≠ 2 → X 3 j = I 3 j := fun j hj => by rw [hX 3 (by omega) (by omega), k2 j hj, fI 3 (by unfold psl; omega) (by omega)]
    refine ⟨hv_keep v1 (p7 0 (by omega) (by omega) (by omega) (by omega) (by omega)) (p3 0 (by omega)) (fun i hi => ⟨pX _ (by omega) (by omega) (by omega) (by omega), pY _ (by omega) (by omega)⟩) (fun j q1 q2 => p7 j (by omega) (by omega) (by omega) (by omega) (by omega)), yv_keep v2 (p7 1 (by omega) (by omega) (by omega) (by omega) (by omega)) (p3 1 (by omega)) (fun i hi => ⟨pX _ (by omega) (by omega) (by omega) (by omega), pX _ (by omega) (by omega) (by omega) (by omega), pX _ (by omega) (by omega) (by omega) (by omega), pX _ (by omega) (by omega) (by omega) (by omega)⟩) (fun j q1 q2 => p7 j (by omega) (by omega) (by omega) (by omega) (by omega)), lv_new v3 hk (hmx X 2 rfl h7 (by rw [hX 3 (by omega) (by omega)]; exact k1)) (fun i hi q => ⟨pX _ (by omega) (by omega) (by omega) (by omega), pX _ (by omega) (by omega) (by omega) (by omega), pX _ (by omega) (by omega) (by omega) (by omega)⟩) (fun j q1 q2 q3 => p7 j (by omega) (by omega) (by omega) (by omega) (by omega)) (n := n) (lc := lc) (lh := lh) ⟨d1, ?_, ?_, fun t ht => ?_⟩, tv_keep v4 (p7 3 (by omega) (by omega) (by omega) (by omega) (by omega)) (p3 3 (by omega)) (fun i hi => ⟨pX _ (by omega) (by omega) (by omega) (by omega), pX _ (by omega) (by omega) (by omega) (by omega)⟩) (fun j q1 q2 => p7 j (by omega) (by omega) (by omega) (by omega) (by omega))⟩
    · rw [hX _ (by omega) (by omega), t0]; exact d2
    · show X 137 (0 + (952 + 17 * k)) = _
      rw [h7, show 0 + (952 + 17 * k) = 952 + 17 * k + 0 by omega, jd 0 (by omega)]; exact d3
    · obtain ⟨x1, x2, x3, x4, x5, x6⟩ := d4 t ht
      obtain ⟨u1, u2⟩ := t1 t (by omega)
      refine ⟨x1, x2, ?_, ?_, ?_, ?_⟩
      · rw [hX _ (by omega) (by omega), u1]; exact x3
      · rw [hX _ (by omega) (by omega), u2]; exact x4
      · show X 137 (0 + (952 + 17 * k + 1 + 2 * t)) = _
        rw [h7, show 0 + (952 + 17 * k + 1 + 2 * t) = 952 + 17 * k + (0 + 1 + 2 * t) by omega, jd _ (by omega)]; exact x5
      · show X 137 (0 + (952 + 17 * k + 2 + 2 * t)) = _
        rw [h7, show 0 + (952 + 17 * k + 2 + 2 * t) = 952 + 17 * k + (0 + 2 + 2 * t) by omega, jd _ (by omega)]; exact x6
  · obtain ⟨n, tw, d1, d2, d3, d4⟩ := D.2.2.2 rfl
    obtain ⟨I2, e, k1, k2, ⟨t0, t1⟩, g1⟩ := c_keep3 (L := L3) hk hm m3'
    rw [sz3] at jd f7
    rw [pc3] at jd f7
    refine ⟨I2, L3, e, fun c hc h => by rw [g1 c (by omega) (by omega), fI c hc (by omega)], fun c hc h => fL c hc, fJ, f1004, bk I2 L3 (g1 1 (by omega) (by omega)) fun X Y hX hY h7 => ?_⟩
    have p7 : ∀ j, j ≠ 3 → j ≠ 4 → j ≠ 5 → j ≠ 6 → (j < 986 + 9 * k ∨ 986 + 9 * k + 9 ≤ j) → X 137 j = I 137 j := fun j q1 q2 q3 q4 q5 => by rw [h7, f7 j q1 q2 q3 q4 q5, hJ]
    have pX : ∀ c, 2 ≤ c → c < 28 → c ≠ 3 → (c < 16 + 10 * k ∨ 18 + 10 * k ≤ c) → X c = I c := fun c q1 q2 q3 q4 => by rw [hX c (by omega) q2, g1 c q3 q4, fI c (by unfold psl; omega) (by omega)]
    have pY : ∀ c, 2 ≤ c → c < 28 → Y c = L c := fun c q1 q2 => by rw [hY c (by omega) q2, fL c (by unfold psl; omega)]
    have p3 : ∀ j, j ≠ 3 → X 3 j = I 3 j := fun j hj => by rw [hX 3 (by omega) (by omega), k2 j hj, fI 3 (by unfold psl; omega) (by omega)]
    refine ⟨hv_keep v1 (p7 0 (by omega) (by omega) (by omega) (by omega) (by omega)) (p3 0 (by omega)) (fun i hi => ⟨pX _ (by omega) (by omega) (by omega) (by omega), pY _ (by omega) (by omega)⟩) (fun j q1 q2 => p7 j (by omega) (by omega) (by omega) (by omega) (by omega)), yv_keep v2 (p7 1 (by omega) (by omega) (by omega) (by omega) (by omega)) (p3 1 (by omega)) (fun i hi => ⟨pX _ (by omega) (by omega) (by omega) (by omega), pX _ (by omega) (by omega) (by omega) (by omega), pX _ (by omega) (by omega) (by omega) (by omega), pX _ (by omega) (by omega) (by omega) (by omega)⟩) (fun j q1 q2 => p7 j (by omega) (by omega) (by omega) (by omega) (by omega)), lv_keep v3 (p7 2 (by omega) (by omega) (by omega) (by omega) (by omega)) (p3 2 (by omega)) (fun i hi => ⟨pX _ (by omega) (by omega) (by omega) (by omega), pX _ (by omega) (by omega) (by omega) (by omega), pX _ (by omega) (by omega) (by omega) (by omega)⟩) (fun j q1 q2 => p7 j (by omega) (by omega) (by omega) (by omega) (by omega)), tv_new v4 hk (hmx X 3 rfl h7 (by rw [hX 3 (by omega) (by omega)]; exact k1)) (fun i hi q => ⟨pX _ (by omega) (by omega) (by omega) (by omega), pX _ (by omega) (by omega) (by omega) (by omega)⟩) (fun j q1 q2 q3 => p7 j (by omega) (by omega) (by omega) (by omega) (by omega)) (n := n) (tw := tw) ⟨d1, ?_, ?_, fun t ht => ?_⟩⟩
    · rw [hX _ (by omega) (by omega), t0]; exact d2
    · show X 137 (0 + (986 + 9 * k)) = _
      rw [h7, show 0 + (986 + 9 * k) = 986 + 9 * k + 0 by omega, jd 0 (by omega)]; exact d3
    · obtain ⟨x1, x2, x3⟩ := d4 t ht
      refine ⟨x1, ?_, ?_⟩
      · rw [hX _ (by omega) (by omega), t1 t (by omega)]; exact x2
      · show X 137 (0 + (986 + 9 * k + 1 + t)) = _
        rw [h7, show 0 + (986 + 9 * k + 1 + t) = 986 + 9 * k + (0 + 1 + t) by omega, jd _ (by omega)]; exact x3
end TT
