/-! TEXT: the call text in both, at last. -/
section TZ
variable {I J : tq_PI} {L M : tq_PL}
theorem bk_many (V : BK I L 1 0) {s : Nat} (hs : s < 4) : ∃ m : Nat, m ≤ 2 ∧ I 3 s = zI (m : Int) ∧ I 137 s = zI (m : Int) := by
  obtain ⟨⟨m1, a1, b1, c1, -⟩, ⟨m2, a2, b2, c2, -⟩, ⟨m3, a3, b3, c3, -⟩, ⟨m4, a4, b4, c4, -⟩, -, -⟩ := V
  rcases (by omega : s = 0 ∨ s = 1 ∨ s = 2 ∨ s = 3) with rfl | rfl | rfl | rfl
  · exact ⟨m1, a1, c1, b1⟩
  · exact ⟨m2, a2, c2, b2⟩
  · exact ⟨m3, a3, c3, b3⟩
  · exact ⟨m4, a4, c4, b4⟩
theorem t_valid {s m k : Nat} {z : Int} (V : BK I L 1 0) (hJ : J 137 = I 137) (hs : s < 4) (hm : m ≤ 2) (m3 : I 3 s = zI (m : Int)) (m7 : I 137 s = zI (m : Int)) (hk : k < 2) (zr : -2147483648 ≤ z ∧ z < 2147483648) (hz : (z = -1 ∧ k = m) ∨ (z = k ∧ k < m)) : ∃ v I2 L2 J2, FX11_text_j76 (tq_up2 (tq_up2 (tq_up2 I 1 1 (0 : Int32)) 1 2 (0 : Int32)) 1 3 (-1 : Int32)) L 0 (zI (s : Int)) (zI z) (I 1 1) (zI (m : Int)) = some (v, I2, L2) ∧ FX12_text_j71 (tq_up2 (tq_up2 (tq_up2 (tq_up2 J 136 2 (J 137 4)) 137 4 (0 : Int32)) 137 5 (0 : Int32)) 137 6 (-1 : Int32)) M 136 (zI (s : Int)) (zI z) = some (v, J2) ∧ TX I L I2 L2 J J2 := by
  obtain ⟨n, n6, t1, t2, t3⟩ := V.2.2.2.2.2
  rw [Nat.zero_add] at t2
  have t4 : ∀ i, ∃ x : Nat, i < n → x < 256 ∧ I 137 (0 + 10 + i) = zI (x : Int) ∧ I (1 + 1) i = (zI (x : Int)).toInt8.toInt32 := fun i => by
    by_cases h : i < n
    · obtain ⟨x, hx⟩ := t3 i h
      exact ⟨x, fun _ => hx⟩
    · exact ⟨0, fun g => absurd g h⟩
  obtain ⟨B, hB⟩ := Classical.axiomOfChoice t4
  obtain ⟨X, hX⟩ : ∃ X, X = tq_up2 (tq_up2 (tq_up2 I 1 1 (0 : Int32)) 1 2 (0 : Int32)) 1 3 (-1 : Int32) := ⟨_, rfl⟩
  obtain ⟨Z, hZ⟩ : ∃ Z, Z = tq_up2 (tq_up2 (tq_up2 (tq_up2 J 136 2 (J 137 4)) 137 4 (0 : Int32)) 137 5 (0 : Int32)) 137 6 (-1 : Int32) := ⟨_, rfl⟩
  have xr : ∀ c, c ≠ 1 → X c = I c := fun c hc => by rw [hX, up_row hc, up_row hc, up_row hc]
  have x11 : X 1 1 = 0 := by rw [hX, up_n _ _ (by omega), up_n _ _ (by omega), up_s]
  have z2 : Z 136 2 = zI (n : Int) := by rw [hZ, up_n _ _ (by omega), up_n _ _ (by omega), up_n _ _ (by omega), up_s, hJ]; exact t2
  have z4 : Z 137 4 = 0 := by rw [hZ, up_n _ _ (by omega), up_n _ _ (by omega), up_s]
  have z5 : Z 137 5 = 0 := by rw [hZ, up_n _ _ (by omega), up_s]
  have z6 : Z 137 6 = -1 := by rw [hZ, up_s]
  have z7 : ∀ j, j ≠ 4 → j ≠ 5 → j ≠ 6 → Z 137 j = J 137 j := fun j q1 q2 q3 => by rw [hZ, up_n _ _ (by omega), up_n _ _ (by omega), up_n _ _ (by omega), up_n _ _ (by omega)]
  have zr2 : ∀ c, c ≠ 136 → c ≠ 137 → Z c = J c := fun c q1 q2 => by rw [hZ, up_row q2, up_row q2, up_row q2, up_row q1]
  obtain ⟨I2, L2, J2, e1, e2, f1, f2, f3, f, f5, h1, h2, h3, h4⟩ := t_read (X := X) (L := L) (Z := Z) (M := M) (B := B) (a2 := zI z) hs n6 (fun i hi => by
    obtain ⟨b1, b2, b3⟩ := hB i hi
    refine ⟨b1, by rw [xr 2 (by omega)]; exact b3, ?_⟩
    rw [z7 _ (by omega) (by omega) (by omega), hJ]
    rw [show 10 + i = 0 + 10 + i by omega]; exact b2) z2 z5 z6
  obtain ⟨I3, hI3⟩ : ∃ I3, I3 = tq_up2 (tq_up2 I2 1 2 (I2 30 11)) 1 3 (I2 30 12) := ⟨_, rfl⟩
  have i31 : I3 1 1 = 0 := by rw [hI3, up_n _ _ (by omega), up_n _ _ (by omega), f1 1 (by unfold psl; omega)]; exact x11
  have i32 : I3 1 2 = zI (f : Int) := by rw [hI3, up_n _ _ (by omega), up_s]; exact h1
  have i33 : I3 1 3 = I2 30 12 := by rw [hI3, up_s]
  have i30 : ∀ c, c ≠ 1 → I3 c = I2 c := fun c hc => by rw [hI3, up_row hc, up_row hc]
  have fI : ∀ c, psl c → c ≠ 1 → I3 c = I c := fun c hc h => by rw [i30 c h, f1 c hc, xr c h]
  have fJ2 : ∀ c, psl c → c ≠ 137 → J2 c = J c := fun c hc h => by
    have q1 : c ≠ 136 := by unfold psl at hc; omega
    have q2 : c ≠ 139 := by unfold psl at hc; omega
    have q3 : c ≠ 140 := by unfold psl at hc; omega
    rw [← zr2 c q1 h]
    funext j
    exact f3 c j q1 q2 q3 (Or.inl h)
  have f7 : ∀ j, j ≠ 5 → j ≠ 6 → J2 137 j = Z 137 j := fun j q1 q2 => f3 137 j (by omega) (by omega) (by omega) (Or.inr ⟨q1, q2⟩)
  have j76 : FX11_text_j76 X L 0 (zI (s : Int)) (zI z) (I 1 1) (zI (m : Int)) = if I3 30 11 = 0 then (if zI z = (-1 : Int32) then FX11_text_j145 I3 L2 (zI (m : Int)) (zI (s : Int)) 0 else FX11_text_j145 I3 L2 (zI z) (zI (s : Int)) 0) else some ((-1 : Int32), I3, L2) := by
    unfold FX11_text_j76
    rw [rg_0_3, rg_0_0, rg_1_0, t1, e1, obind]
    dsimp only
    have t12 : (tq_up2 I2 1 2 (I2 30 11)) 30 12 = I2 30 12 := up_n _ _ (by omega)
    rw [t12, ← hI3]
  rw [← hX, ← hZ, j76, e2]
  by_cases hf : f = 0
  · subst hf
    have k30 : I3 30 11 = 0 := by rw [i30 30 (by omega), h1]; rfl
    have jm : J2 137 s = zI (m : Int) := by rw [f7 s (by omega) (by omega), z7 s (by omega) (by omega) (by omega), hJ]; exact m7
    obtain ⟨Jf, eJ, g1, g2, g3, g4⟩ := r_keep (J := J2) (M := M) (z := z) hs hk hm (by rw [h2]; rfl) jm hz
    have D : DF s I3 L2 J2 := by
      obtain ⟨q0, q1, q2, q3⟩ := h4 rfl
      refine ⟨fun h => ?_, fun h => ?_, fun h => ?_, fun h => ?_⟩
      · obtain ⟨w, h, K, H, S⟩ := q0 h
        exact ⟨w, h, K, H.re (i30 32 (by omega)) rfl, S⟩
      · obtain ⟨m, yk, yf, ys, c1, c2, c3, c4⟩ := q1 h
        refine ⟨m, yk, yf, ys, c1, by rw [i30 33 (by omega)]; exact c2, c3, fun k hk => ?_⟩
        rw [i30 (33 + 1) (by omega), i30 (33 + 2) (by omega), i30 (33 + 3) (by omega)]
        exact c4 k hk
      · obtain ⟨m, lc, lh, c1, c2, c3, c4⟩ := q2 h
        refine ⟨m, lc, lh, c1, by rw [i30 37 (by omega)]; exact c2, c3, fun k hk => ?_⟩
        rw [i30 (37 + 1) (by omega), i30 (37 + 2) (by omega)]
        exact c4 k hk
      · obtain ⟨m, tw, c1, c2, c3, c4⟩ := q3 h
        refine ⟨m, tw, c1, by rw [i30 40 (by omega)]; exact c2, c3, fun k hk => ?_⟩
        rw [i30 (40 + 1) (by omega)]
        exact c4 k hk
    have bp : 610 ≤ pct s k := by unfold pct; repeat' (first | omega | split)
    obtain ⟨I4, L4, eK, T⟩ := BK.kp (J := J) (I3 := I3) (L3 := L2) (J3 := J2) (Jf := Jf) hs hk hm (by omega) V m3 m7 hJ i31 (by rw [i32]; rfl) fI (fun c hc => f2 c hc) D (by rw [g4 6 (by omega) (by omega), h3, i33]) (by rw [g4 4 (by omega) (by omega), f7 4 (by omega) (by omega)]; exact z4) (by rw [g4 5 (by omega) (by omega), h2]; rfl) (fun c hc h => by rw [g1 c h]; exact fJ2 c hc h) g2 g3 (fun j q1 q2 q3 q4 q5 => by rw [g4 j q1 q5, f7 j q3 q4, z7 j q2 q3 q4])
    refine ⟨zI (k : Int), I4, L4, Jf, ?_, eJ, T⟩
    rw [if_pos k30]
    unfold FX11_text_j145
    rcases hz with ⟨rfl, rfl⟩ | ⟨rfl, hkm⟩
    · rw [if_pos (show zI (-1) = (-1 : Int32) from rfl), eK, obind]
    · rw [if_neg (by rw [show (-1 : Int32) = zI (-1) from rfl, zI_eq (by omega) (by omega)]; omega), eK, obind]
  · have k30 : ¬ I3 30 11 = 0 := by rw [i30 30 (by omega), h1, show (0 : Int32) = zI 0 from rfl, zI_eq (by omega) (by omega)]; omega
    have j5 : ¬ J2 137 5 = 0 := by rw [h2, show (0 : Int32) = zI 0 from rfl, zI_eq (by omega) (by omega)]; omega
    refine ⟨-1, I3, L2, J2, by rw [if_neg k30], ?_, BK.tx V hJ i31 (by rw [i32, h2]) (by rw [i33, h3]) (by rw [f7 4 (by omega) (by omega)]; exact z4) fI (fun c hc => f2 c hc) fJ2 (fun j q1 q2 q3 => by rw [f7 j q2 q3, z7 j q1 q2 q3])⟩
    unfold FX12_text_j199
    rw [if_pos i5, g0, e5n, if_neg j5]
theorem t_text (V : BK I L 1 0) (hJ : J 137 = I 137) (a b : Int32) : ∃ v I2 L2 J2, FX11_text I L 0 a b = some (v, I2, L2) ∧ FX12_text J M 136 a b = some (v, J2) ∧ TX I L I2 L2 J J2 := by
  obtain ⟨y, hy, rfl⟩ := zI_of a
  obtain ⟨z, hz, rfl⟩ := zI_of b
  obtain ⟨X, hX⟩ : ∃ X, X = tq_up2 (tq_up2 (tq_up2 I 1 1 (0 : Int32)) 1 2 (0 : Int32)) 1 3 (-1 : Int32) := ⟨_, rfl⟩
  obtain ⟨Z, hZ⟩ : ∃ Z, Z = tq_up2 (tq_up2 (tq_up2 (tq_up2 J 136 2 (J 137 4)) 137 4 (0 : Int32)) 137 5 (0 : Int32)) 137 6 (-1 : Int32) := ⟨_, rfl⟩
  have xr : ∀ c, c ≠ 1 → X c = I c := fun c hc => by rw [hX, up_row hc, up_row hc, up_row hc]
  have z7 : ∀ j, j ≠ 4 → j ≠ 5 → j ≠ 6 → Z 137 j = J 137 j := fun j q1 q2 q3 => by rw [hZ, up_n _ _ (by omega), up_n _ _ (by omega), up_n _ _ (by omega), up_n _ _ (by omega)]
  have no : TX I L X L J Z := BK.tx V hJ (by rw [hX, up_n _ _ (by omega), up_n _ _ (by omega), up_s]) (by rw [hX, hZ, up_n _ _ (by omega), up_s, up_n _ _ (by omega), up_s]) (by rw [hX, hZ, up_s, up_s]) (by rw [hZ, up_n _ _ (by omega), up_n _ _ (by omega), up_s]) (fun c _ h => xr c h) (fun _ _ => rfl) (fun c hc h => by
    have q1 : c ≠ 136 := by unfold psl at hc; omega
    rw [hZ, up_row h, up_row h, up_row h, up_row q1]) z7
  have c4 : (0 : Int32) ≤ 4 ∧ (4 : Int32) < 4016 := by decide
  unfold FX11_text FX12_text FX11_text_j73 FX12_text_j68
  rw [if_pos c4, if_pos c4, if_pos i5, if_pos i6, rg_0_0, g0, e4n, e5n, e6n, zlet, ← hX, ← hZ]
  by_cases q : 0 ≤ y ∧ y < 4
  · obtain ⟨s, rfl⟩ : ∃ s : Nat, y = s := ⟨y.toNat, by omega⟩
    obtain ⟨m, hm, m3, m7⟩ := bk_many V (s := s) (by omega)
    have en : (zI (s : Int)).toNatClampNeg = s := by rw [zI_cl (by omega), Int.toNat_natCast]
    have ec : FX0_countOf X L 1 (zI (s : Int)) = some (zI (m : Int)) := by
      unfold FX0_countOf
      rw [if_neg (by rw [show (0 : Int32) = zI 0 from rfl, zI_lt (by omega) (by omega)]; omega), if_pos (by rw [zI_lit, zI_lt (by omega) (by omega)]; omega), if_pos ⟨by rw [show (0 : Int32) = zI 0 from rfl, zI_le (by omega) (by omega)]; omega, by rw [zI_lit, zI_lt (by omega) (by omega)]; omega⟩, rg_1_4, en, xr 3 (by omega), m3]
    have ei : FX12_isIn Z M (zI (s : Int)) (0 : Int32) (3 : Int32) = true := by
      have := r_isIn Z M (a := (s : Int)) (b := 0) (c := 3) (by omega) (by omega) (by omega)
      refine this.trans (decide_eq_true (by omega))
    have zs : Z 137 s = zI (m : Int) := by rw [z7 s (by omega) (by omega) (by omega), hJ]; exact m7
    have eo := r_isOf (J := Z) M (s := s) (by omega) zs hm hz
    have tv := fun k hk hzk => t_valid (M := M) (k := k) V hJ (show s < 4 by omega) hm m3 m7 hk hz hzk
    rw [← hX, ← hZ] at tv
    rw [ec, obind, if_neg (by rw [show (0 : Int32) = zI 0 from rfl, zI_lt (by omega) (by omega)]; omega), if_neg (by rw [zI_lit, zI_le (by omega) (by omega)]; omega), ei, if_neg tb1]
    by_cases g1 : z < -1
    · rw [if_pos (by rw [show (-1 : Int32) = zI (-1) from rfl, zI_lt (by omega) (by omega)]; exact g1), if_neg (by rw [show (-1 : Int32) = zI (-1) from rfl, zI_eq (by omega) (by omega)]; omega), eo, obind, decide_eq_false (by omega), if_pos (show tq_b false = 0 from rfl)]
      exact ⟨_, _, _, _, rfl, rfl, no⟩
    · rw [if_neg (by rw [show (-1 : Int32) = zI (-1) from rfl, zI_lt (by omega) (by omega)]; exact g1)]
      by_cases g2 : z = -1
      · subst g2
        have ic : (0 : Int32) ≤ zI (s : Int) ∧ zI (s : Int) < 4016 := ⟨by rw [show (0 : Int32) = zI 0 from rfl, zI_le (by omega) (by omega)]; omega, by rw [zI_lit, zI_lt (by omega) (by omega)]; omega⟩
        have nl : ¬ zI (m : Int) ≤ zI (-1) := by rw [zI_le (by omega) (by omega)]; omega
        have em : zI (-1) = (-1 : Int32) := rfl
        have e2 : (zI (m : Int) < (2 : Int32)) = (m < 2) := by rw [zI_lit, zI_lt (by omega) (by omega)]; apply propext; omega
        rw [if_neg nl, if_pos em, if_pos em, if_pos ic, en, zs]
        by_cases g3 : m < 2
        · rw [if_pos (show zI (m : Int) < (2 : Int32) by rw [e2]; exact g3), if_pos (show zI (m : Int) < (2 : Int32) by rw [e2]; exact g3)]
          exact tv m g3 (Or.inl ⟨rfl, rfl⟩)
        · rw [if_neg (show ¬ zI (m : Int) < (2 : Int32) by rw [e2]; exact g3), if_neg (show ¬ zI (m : Int) < (2 : Int32) by rw [e2]; exact g3)]
          exact ⟨_, _, _, _, rfl, rfl, no⟩
      · have nz : ¬ zI z = (-1 : Int32) := by rw [show (-1 : Int32) = zI (-1) from rfl, zI_eq (by omega) (by omega)]; exact g2
        rw [if_neg nz, if_neg nz, eo, obind]
        by_cases g3 : z < m
        · rw [if_neg (by rw [zI_le (by omega) (by omega)]; omega), decide_eq_true (by omega), if_neg tb1]
          obtain ⟨k, rfl⟩ : ∃ k : Nat, z = k := ⟨z.toNat, by omega⟩
          exact tv k (by omega) (Or.inr ⟨rfl, by omega⟩)
        · rw [if_pos (by rw [zI_le (by omega) (by omega)]; omega), decide_eq_false (by omega), if_pos (show tq_b false = 0 from rfl)]
          exact ⟨_, _, _, _, rfl, rfl, no⟩
  · have ei : FX12_isIn Z M (zI y) (0 : Int32) (3 : Int32) = false := by
      have := r_isIn Z M (a := y) (b := 0) (c := 3) (by omega) (by omega) (by omega)
      refine this.trans (decide_eq_false (by omega))
    have ec : ∃ t, FX0_countOf X L 1 (zI y) = some t := by
      unfold FX0_countOf FX0_countOf_j13
      by_cases g : y < 0
      · rw [if_pos (by rw [show (0 : Int32) = zI 0 from rfl, zI_lt (by omega) (by omega)]; exact g)]
        exact ⟨_, rfl⟩
      · rw [if_neg (by rw [show (0 : Int32) = zI 0 from rfl, zI_lt (by omega) (by omega)]; exact g), if_neg (by rw [zI_lit, zI_lt (by omega) (by omega)]; omega)]
        exact ⟨_, rfl⟩
    obtain ⟨t, et⟩ := ec
    rw [et, obind, ei, if_pos (show tq_b false = 0 from rfl)]
    refine ⟨-2, X, L, Z, ?_, rfl, no⟩
    by_cases g : y < 0
    · rw [if_pos (by rw [show (0 : Int32) = zI 0 from rfl, zI_lt (by omega) (by omega)]; exact g)]
    · rw [if_neg (by rw [show (0 : Int32) = zI 0 from rfl, zI_lt (by omega) (by omega)]; exact g), if_pos (by rw [zI_lit, zI_le (by omega) (by omega)]; omega)]
end TZ
