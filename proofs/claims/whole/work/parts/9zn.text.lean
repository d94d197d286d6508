/-! TEXT: the reference's words; a token by the reference. -/
theorem vv_lt {B : Nat → Nat} {s : Nat} : ∀ i, (∀ j, j < i → isL (B (s + j)) = true) → vv B s i < 32 ^ i
  | 0, _ => Nat.zero_lt_one
  | i + 1, hd => by
    have a := vv_lt i (fun j hj => hd j (by omega))
    have b := hd i (by omega)
    unfold isL at b
    rw [decide_eq_true_eq] at b
    have e : vv B s (i + 1) = 32 * vv B s i + (B (s + i) - 96) := rfl
    rw [e, Nat.pow_succ]
    omega
theorem zLn {v c : Nat} (hv : v < 1099511627776) (hc : c < 1099511627776) : (zL (v : Int) = zL (c : Int)) = (v = c) := propext ⟨fun h => by
  have := (zL_eq (by omega) (by omega)).1 h
  omega, fun h => by rw [h]⟩
theorem r_wordOf (I : tq_PI) (L : tq_PL) {l v : Nat} (hl : l ≤ 8) (hv : v < 1099511627776) : FX12_wordOf I L (zL (v : Int)) = zI (wcd l v : Nat) := by
  have f0 : FX12_four I L (19 : Int32) (9 : Int32) (26 : Int32) (5 : Int32) = zL ((632645 : Nat) : Int) := by unfold FX12_four; decide +kernel
  have f1 : FX12_four I L (0 : Int32) (1 : Int32) (9 : Int32) (18 : Int32) = zL ((1330 : Nat) : Int) := by unfold FX12_four; decide +kernel
  have f2 : FX12_eight I L (0 : Int32) (0 : Int32) (0 : Int32) (3 : Int32) (8 : Int32) (1 : Int32) (12 : Int32) (11 : Int32) = zL ((3409291 : Nat) : Int) := by unfold FX12_eight FX12_four; decide +kernel
  have f3 : FX12_eight I L (0 : Int32) (0 : Int32) (13 : Int32) (1 : Int32) (18 : Int32) (2 : Int32) (12 : Int32) (5 : Int32) = zL ((437848453 : Nat) : Int) := by unfold FX12_eight FX12_four; decide +kernel
  have f4 : FX12_eight I L (0 : Int32) (7 : Int32) (18 : Int32) (1 : Int32) (14 : Int32) (9 : Int32) (20 : Int32) (5 : Int32) = zL ((8121689733 : Nat) : Int) := by unfold FX12_eight FX12_four; decide +kernel
  have f5 : FX12_four I L (16 : Int32) (18 : Int32) (15 : Int32) (16 : Int32) = zL ((543216 : Nat) : Int) := by unfold FX12_four; decide +kernel
  have f6 : FX12_eight I L (0 : Int32) (0 : Int32) (0 : Int32) (14 : Int32) (15 : Int32) (18 : Int32) (20 : Int32) (8 : Int32) = zL ((15190664 : Nat) : Int) := by unfold FX12_eight FX12_four; decide +kernel
  have f7 : FX12_eight I L (0 : Int32) (0 : Int32) (0 : Int32) (19 : Int32) (15 : Int32) (21 : Int32) (20 : Int32) (8 : Int32) = zL ((20436616 : Nat) : Int) := by unfold FX12_eight FX12_four; decide +kernel
  have f8 : FX12_eight I L (0 : Int32) (0 : Int32) (0 : Int32) (11 : Int32) (14 : Int32) (15 : Int32) (3 : Int32) (11 : Int32) = zL ((12008555 : Nat) : Int) := by unfold FX12_eight FX12_four; decide +kernel
  have f9 : FX12_eight I L (0 : Int32) (0 : Int32) (0 : Int32) (8 : Int32) (5 : Int32) (1 : Int32) (18 : Int32) (4 : Int32) = zL ((8554052 : Nat) : Int) := by unfold FX12_eight FX12_four; decide +kernel
  have f10 : FX12_four I L (23 : Int32) (15 : Int32) (18 : Int32) (4 : Int32) = zL ((769604 : Nat) : Int) := by unfold FX12_four; decide +kernel
  unfold FX12_wordOf wcd
  rw [if_neg (show ¬ 8 < l by omega)]
  have z := fun c hc => (lgc (zL (v : Int)) (zL ((c : Nat) : Int))).trans (zLn hv (c := c) hc)
  simp only [zlet, f0, f1, f2, f3, f4, f5, f6, f7, f8, f9, f10, z 632645 (by omega), z 1330 (by omega), z 3409291 (by omega), z 437848453 (by omega), z 8121689733 (by omega), z 543216 (by omega), z 15190664 (by omega), z 20436616 (by omega), z 12008555 (by omega), z 8554052 (by omega), z 769604 (by omega)]
  by_cases q0 : v = 632645
  · rw [if_pos q0, if_pos q0]; rfl
  rw [if_neg q0, if_neg q0]
  by_cases q1 : v = 1330
  · rw [if_pos q1, if_pos q1]; rfl
  rw [if_neg q1, if_neg q1]
  by_cases q2 : v = 3409291
  · rw [if_pos q2, if_pos q2]; rfl
  rw [if_neg q2, if_neg q2]
  by_cases q3 : v = 437848453
  · rw [if_pos q3, if_pos q3]; rfl
  rw [if_neg q3, if_neg q3]
  by_cases q4 : v = 8121689733
  · rw [if_pos q4, if_pos q4]; rfl
  rw [if_neg q4, if_neg q4]
  by_cases q5 : v = 543216
  · rw [if_pos q5, if_pos q5]; rfl
  rw [if_neg q5, if_neg q5]
  by_cases q6 : v = 15190664
  · rw [if_pos q6, if_pos q6]; rfl
  rw [if_neg q6, if_neg q6]
  by_cases q7 : v = 20436616
  · rw [if_pos q7, if_pos q7]; rfl
  rw [if_neg q7, if_neg q7]
  by_cases q8 : v = 12008555
  · rw [if_pos q8, if_pos q8]; rfl
  rw [if_neg q8, if_neg q8]
  by_cases q9 : v = 8554052
  · rw [if_pos q9, if_pos q9]; rfl
  rw [if_neg q9, if_neg q9]
  by_cases q10 : v = 769604
  · rw [if_pos q10, if_pos q10]; rfl
  rw [if_neg q10, if_neg q10]; rfl
def tW (B : Nat → Nat) (n p : Nat) : Nat := wcd (tE B n p - tS B n p) (vv B (tS B n p) (tE B n p - tS B n p))
def rK (k w : Nat) : Nat := if k = 0 then 0 else if k = 1 then (if w = 99 then 4 else 3) else if k = 2 then 1 else if k = 3 then 2 else 4
def LA (J : tq_PI) (B : Nat → Nat) (n p : Nat) : Prop := J 136 3 = zI (tE B n p : Nat) ∧ J 136 4 = zI (tS B n p : Nat) ∧ J 136 5 = zI (rK (tK B n p) (tW B n p) : Nat) ∧ (tK B n p = 2 → J 136 6 = zI (tN B n p : Nat)) ∧ (tK B n p = 1 → J 136 7 = zI (tW B n p : Nat))
theorem wcd_le (l v : Nat) : wcd l v ≤ 99 ∧ 1 ≤ wcd l v := by
  unfold wcd
  repeat' (first | omega | split)
section RW2
variable {I J : tq_PI} {M : tq_PL} {B : Nat → Nat} {n p : Nat}
theorem r_tword {s : Nat} (C : RTp J B n) (hs : s < n) (h3 : J 136 3 = zI (s : Int)) (h4 : J 136 4 = zI (s : Int)) : ∃ (x : Int64) (K : tq_PI), tq_it (fun q : Int64 × tq_PI => FX12_advance_s77 q.2 M 136 q.1) tq_N ((0 : Int64), J) = some (x, K) ∧ FTr J K ∧ K 136 3 = zI (ro isL B n s : Nat) ∧ K 136 4 = zI (s : Int) ∧ (ro isL B n s - s ≤ 8 → x = zL (vv B s (ro isL B n s - s) : Nat)) := by
  have c1 := C.1
  have sg := ro_ge (P := isL) (B := B) (n := n) s
  have sl := ro_le (P := isL) (B := B) (n := n) (Nat.le_of_lt hs)
  obtain ⟨⟨x, K⟩, e, F, j8, j9, jn⟩ := it_w (f := fun q : Int64 × tq_PI => FX12_advance_s77 q.2 M 136 q.1) (fun a => ∃ i : Nat, s + i ≤ ro isL B n s ∧ FTr J a.2 ∧ a.2 136 3 = zI ((s + i : Nat) : Int) ∧ a.2 136 4 = zI (s : Int) ∧ ro isL B n (s + i) = ro isL B n s ∧ (i ≤ 8 → a.1 = zL (vv B s i : Nat))) (fun a => n - (a.2 136 3).toNatClampNeg) (Post := fun a => FTr J a.2 ∧ a.2 136 3 = zI (ro isL B n s : Nat) ∧ a.2 136 4 = zI (s : Int) ∧ (ro isL B n s - s ≤ 8 → a.1 = zL (vv B s (ro isL B n s - s) : Nat))) (fun a ha => by
    obtain ⟨x, a⟩ := a
    obtain ⟨i, hi, F, a8, a9, er, an⟩ := ha
    dsimp only at F a8 a9 an ⊢
    have C2 := C.ft F
    have fin : ¬ (s + i < n ∧ isL (B (s + i)) = true) → FTr J a ∧ a 136 3 = zI (ro isL B n s : Nat) ∧ a 136 4 = zI (s : Int) ∧ (ro isL B n s - s ≤ 8 → x = zL (vv B s (ro isL B n s - s) : Nat)) := fun g => by
      rw [ro_st g] at er
      refine ⟨F, by rw [← er]; exact a8, a9, fun h => ?_⟩
      rw [← er, Nat.add_sub_cancel_left]
      exact an (by omega)
    unfold FX12_advance_s77
    rw [a8, a9]
    by_cases g : s + i < n
    · obtain ⟨b1, -⟩ := C.2.2 _ g
      rw [r_byte C2 g, obind, zlet, r_letterN _ _ b1]
      cases eb : isL (B (s + i))
      · rw [if_pos (show tq_b false = 0 from rfl)]
        exact Or.inr ⟨(x, a), rfl, fin (by rw [eb]; simp)⟩
      · have er2 : ro isL B n (s + (i + 1)) = ro isL B n s := by rw [← er, ro_go g eb]; rfl
        have hi2 : s + (i + 1) ≤ ro isL B n s := by rw [← er2]; exact ro_ge _
        have go : ∀ y : Int64, (i + 1 ≤ 8 → y = zL (vv B s (i + 1) : Nat)) → ∃ a2 : Int64 × tq_PI, FX12_advance_j125L77 a M 136 y = some (.inl a2) ∧ n - (a2.2 136 3).toNatClampNeg < n - (zI ((s + i : Nat) : Int)).toNatClampNeg ∧ ∃ i : Nat, s + i ≤ ro isL B n s ∧ FTr J a2.2 ∧ a2.2 136 3 = zI ((s + i : Nat) : Int) ∧ a2.2 136 4 = zI (s : Int) ∧ ro isL B n (s + i) = ro isL B n s ∧ (i ≤ 8 → a2.1 = zL (vv B s i : Nat)) := fun y hy => by
          have e8 : a 136 3 + (1 : Int32) = zI ((s + (i + 1) : Nat) : Int) := by rw [a8, z_suc]; rfl
          refine ⟨(y, tq_up2 a 136 3 (a 136 3 + (1 : Int32))), rfl, ?_, i + 1, hi2, F.tr (FTr.up (by omega)), ?_, ?_, er2, hy⟩
          · dsimp only
            rw [up_s, e8, zI_cl (by omega), zI_cl (by omega)]; omega
          · dsimp only
            rw [up_s, e8]
          · dsimp only
            rw [up_n _ _ (by omega)]; exact a9
        rw [if_neg tb1, zI_sub]
        by_cases g2 : 8 ≤ i
        · rw [if_pos (by rw [zI_lit, zI_le (by omega) (by omega)]; omega)]
          exact Or.inl (go x (fun h => by omega))
        · rw [if_neg (by rw [zI_lit, zI_le (by omega) (by omega)]; omega), obind, an (by omega)]
          have bd : 97 ≤ B (s + i) ∧ B (s + i) ≤ 122 := by unfold isL at eb; rw [decide_eq_true_eq] at eb; exact eb
          refine Or.inl (go _ (fun h => ?_))
          have e1 : vv B s (i + 1) = 32 * vv B s i + (B (s + i) - 96) := rfl
          rw [e1, zI_L (by omega), show (32 : Int64) = zL 32 from rfl, show (96 : Int64) = zL 96 from rfl, zL_mul, zL_add, zL_sub]
          congr 1
          omega
    · have qn : s + i = n := by omega
      rw [r_byte_n C2 (by omega) (by omega), obind, zlet, r_letter _ _ (by omega), decide_eq_false (by omega), if_pos (show tq_b false = 0 from rfl)]
      exact Or.inr ⟨(x, a), rfl, fin (fun h => g h.1)⟩) ((0 : Int64), J) (by omega) ⟨0, sg, FTr.rf, h3, h4, rfl, fun _ => rfl⟩
  exact ⟨x, K, e, F, j8, j9, jn⟩
theorem r_adv (C : RTp J B n) (hp : p ≤ n) (h3 : J 136 3 = zI (p : Int)) : ∃ K, FX12_advance J M 136 = some K ∧ FTr J K ∧ LA K B n p := by
  have c1 := C.1
  have e0 := r_s0 (M := M) C hp h3
  have sl := tS_le (B := B) hp
  have eS : ro isB B n p = tS B n p := rfl
  rw [eS] at e0
  obtain ⟨s, hs⟩ : ∃ s, s = tS B n p := ⟨_, rfl⟩
  obtain ⟨X, hX⟩ : ∃ X, X = tq_up2 (tq_up2 J 136 3 (zI (s : Int))) 136 4 (zI (s : Int)) := ⟨_, rfl⟩
  have FX : FTr J X := by rw [hX]; exact (FTr.up (by omega)).tr (FTr.up (by omega))
  have CX := C.ft FX
  have x3 : X 136 3 = zI (s : Int) := by rw [hX, up_n _ _ (by omega), up_s]
  have x4 : X 136 4 = zI (s : Int) := by rw [hX, up_s]
  unfold FX12_advance
  rw [e0, obind, up_s, ← hs, ← hX, x3]
  have wl := wcd_le (tE B n p - tS B n p) (vv B (tS B n p) (tE B n p - tS B n p))
  unfold LA tW tN
  by_cases g : n ≤ s
  · have eK : tK B n p = 0 := by unfold tK; rw [← hs, if_pos g]
    have eE : tE B n p = s := by unfold tE; rw [← hs, if_pos g]
    rw [r_byte_n CX (by omega) (by omega), obind, if_neg (by decide), eK, eE, ← hs]
    exact ⟨_, rfl, FX.tr (FTr.up (by omega)), by rw [up_n _ _ (by omega)]; exact x3, by rw [up_n _ _ (by omega)]; exact x4, by rw [up_s]; rfl, by omega, by omega⟩
  · obtain ⟨b1, -⟩ := C.2.2 s (by omega)
    rw [r_byte CX (by omega), obind, if_pos (by rw [show (0 : Int32) = zI 0 from rfl, zI_le (by omega) (by omega)]; omega), zlet, r_letterN _ _ b1]
    cases el : isL (B s)
    · have nl : ¬ isL (B s) = true := by rw [el]; simp
      rw [if_pos (show tq_b false = 0 from rfl), zlet, r_digitN _ _ b1]
      cases ed : isDg (B s)
      · have nd : ¬ isDg (B s) = true := by rw [ed]; simp
        have eE : tE B n p = s + 1 := by unfold tE; rw [← hs, if_neg g, if_neg nl, if_neg nd]
        rw [if_pos (show tq_b false = 0 from rfl), z_suc, eE, ← hs]
        unfold FX12_advance_j308
        by_cases g2 : B s = 59
        · have eK : tK B n p = 3 := by unfold tK; rw [← hs, if_neg g, if_neg nl, if_neg nd, if_pos g2]
          rw [if_pos (by rw [g2]; rfl), eK]
          exact ⟨_, rfl, (FX.tr (FTr.up (by omega))).tr (FTr.up (by omega)), by rw [up_n _ _ (by omega), up_s], by rw [up_n _ _ (by omega), up_n _ _ (by omega)]; exact x4, by rw [up_s]; rfl, by omega, by omega⟩
        · have eK : tK B n p = 4 := by unfold tK; rw [← hs, if_neg g, if_neg nl, if_neg nd, if_neg g2]
          rw [if_neg (by rw [zI_lit, zI_eq (by omega) (by omega)]; omega), eK]
          exact ⟨_, rfl, (FX.tr (FTr.up (by omega))).tr (FTr.up (by omega)), by rw [up_n _ _ (by omega), up_s], by rw [up_n _ _ (by omega), up_n _ _ (by omega)]; exact x4, by rw [up_s]; rfl, by omega, by omega⟩
      · obtain ⟨K, eKn, FK2, k3, k4, kn⟩ := r_tnum (M := M) CX (s := s) (by omega) x3 x4
        have sg := ro_ge (P := isDg) (B := B) (n := n) s
        have sl2 := ro_le (P := isDg) (B := B) (n := n) (p := s) (by omega)
        have eE : tE B n p = ro isDg B n s := by unfold tE; rw [← hs, if_neg g, if_neg nl, if_pos ed]
        rw [if_neg tb1, eKn, obind, k3, k4, zI_sub, eE, ← hs]
        unfold FX12_advance_j280
        by_cases g2 : ro isDg B n s - s ≤ 2
        · have eK : tK B n p = 2 := by unfold tK; rw [← hs, if_neg g, if_neg nl, if_pos ed, if_pos g2]
          rw [if_pos (by rw [zI_lit, zI_le (by omega) (by omega)]; omega), eK]
          exact ⟨_, rfl, (FX.tr FK2).tr (FTr.up (by omega)), by rw [up_n _ _ (by omega)]; exact k3, by rw [up_n _ _ (by omega)]; exact k4, by rw [up_s]; rfl, fun _ => by rw [up_n _ _ (by omega)]; exact kn g2, by omega⟩
        · have eK : tK B n p = 4 := by unfold tK; rw [← hs, if_neg g, if_neg nl, if_pos ed, if_neg g2]
          rw [if_neg (by rw [zI_lit, zI_le (by omega) (by omega)]; omega), eK]
          exact ⟨_, rfl, (FX.tr FK2).tr (FTr.up (by omega)), by rw [up_n _ _ (by omega)]; exact k3, by rw [up_n _ _ (by omega)]; exact k4, by rw [up_s]; rfl, by omega, by omega⟩
    · obtain ⟨x, K, eKn, FK2, k3, k4, kn⟩ := r_tword (M := M) CX (s := s) (by omega) x3 x4
      have sg := ro_ge (P := isL) (B := B) (n := n) s
      have sl2 := ro_le (P := isL) (B := B) (n := n) (p := s) (by omega)
      have eE : tE B n p = ro isL B n s := by unfold tE; rw [← hs, if_neg g, if_pos el]
      have eK : tK B n p = 1 := by unfold tK; rw [← hs, if_neg g, if_pos el]
      rw [eE, ← hs] at wl
      rw [if_neg tb1, eKn, obind, eE, ← hs, eK]
      dsimp only
      have fin : ∀ w : Nat, w ≤ 99 → wcd (ro isL B n s - s) (vv B s (ro isL B n s - s)) = w → ∃ K2, FX12_advance_j162 K M 136 (zI (w : Int)) 136 = some K2 ∧ FTr J K2 ∧ K2 136 3 = zI (ro isL B n s : Nat) ∧ K2 136 4 = zI (s : Int) ∧ K2 136 5 = zI (rK 1 (wcd (ro isL B n s - s) (vv B s (ro isL B n s - s))) : Nat) ∧ (1 = 2 → K2 136 6 = zI (nv B s (ro isL B n s - s) : Nat)) ∧ (1 = 1 → K2 136 7 = zI (wcd (ro isL B n s - s) (vv B s (ro isL B n s - s)) : Nat)) := fun w w1 w2 => by
        rw [w2]
        unfold FX12_advance_j162 FX12_advance_j180
        rw [up_s]
        by_cases g3 : w = 99
        · rw [if_pos (by rw [g3]; rfl)]
          exact ⟨_, rfl, ((FX.tr FK2).tr (FTr.up (by omega))).tr (FTr.up (by omega)), by rw [up_n _ _ (by omega), up_n _ _ (by omega)]; exact k3, by rw [up_n _ _ (by omega), up_n _ _ (by omega)]; exact k4, by rw [up_s, g3]; rfl, by omega, fun _ => by rw [up_n _ _ (by omega), up_s]⟩
        · rw [if_neg (by rw [zI_lit, zI_eq (by omega) (by omega)]; omega)]
          exact ⟨_, rfl, ((FX.tr FK2).tr (FTr.up (by omega))).tr (FTr.up (by omega)), by rw [up_n _ _ (by omega), up_n _ _ (by omega)]; exact k3, by rw [up_n _ _ (by omega), up_n _ _ (by omega)]; exact k4, by rw [up_s]; unfold rK; rw [if_neg (by omega), if_pos rfl, if_neg g3]; rfl, by omega, fun _ => by rw [up_n _ _ (by omega), up_s]⟩
      by_cases g2 : ro isL B n s - s ≤ 8
      · have vl := vv_lt (B := B) (s := s) (ro isL B n s - s) (fun j hj => (ro_in (P := isL) (n := n) (p := s) (by omega) (by omega)).2)
        have v32 : 32 ^ (ro isL B n s - s) ≤ 32 ^ 8 := Nat.pow_le_pow_right (by omega) g2
        rw [if_pos (by rw [k3, k4, zI_sub, zI_lit, zI_le (by omega) (by omega)]; omega), zlet, kn g2, r_wordOf _ _ g2 (by omega)]
        exact fin _ wl.1 rfl
      · rw [if_neg (by rw [k3, k4, zI_sub, zI_lit, zI_le (by omega) (by omega)]; omega)]
        exact fin 99 (by omega) (by unfold wcd; rw [if_pos (by omega)])
end RW2
