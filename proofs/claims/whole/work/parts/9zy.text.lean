/-! TEXT: the end of a hill's text, in both. -/
theorem HC.of {I : tq_PI} {L : tq_PL} {a w h : Nat} {K : Nat → Nat} (k : wh w h) (S : SZ I L a w h) (T : HS L a K) (z : ∀ p, ar w h p = false → K p = 0) : HC I L a w h K := ⟨S.1, S.2.1, k, T.1, z, S.2.2.1, S.2.2.2.1, S.2.2.2.2.1, S.2.2.2.2.2, T.2.1, T.2.2.1, T.2.2.2.1, T.2.2.2.2⟩
theorem put_fr (I : tq_PI) (L : tq_PL) (a : Nat) (k : Int32) (y : Int64) : ∀ b, b ≠ a → (FX3_put I L a k y) b = L b := fun b hb => funext fun j => by
  unfold FX3_put FX3_keepOnly
  rw [zlet]
  split
  · rw [up_n _ _ (Or.inl hb), up_n _ _ (Or.inl hb), up_n _ _ (Or.inl hb), up_n _ _ (Or.inl hb), up_n _ _ (Or.inl hb)]
  · split
    · rw [up_n _ _ (Or.inl hb), up_n _ _ (Or.inl hb), up_n _ _ (Or.inl hb), up_n _ _ (Or.inl hb), up_n _ _ (Or.inl hb)]
    · split
      · rw [up_n _ _ (Or.inl hb), up_n _ _ (Or.inl hb), up_n _ _ (Or.inl hb), up_n _ _ (Or.inl hb), up_n _ _ (Or.inl hb)]
      · split
        · rw [up_n _ _ (Or.inl hb), up_n _ _ (Or.inl hb), up_n _ _ (Or.inl hb), up_n _ _ (Or.inl hb), up_n _ _ (Or.inl hb)]
        · rw [up_n _ _ (Or.inl hb), up_n _ _ (Or.inl hb), up_n _ _ (Or.inl hb), up_n _ _ (Or.inl hb)]
section FH
variable {I J : tq_PI} {L M : tq_PL} {B : Nat → Nat} {n p q : Nat} {x : Nat × Int} {w h : Nat} {tl : Nat → Bool} {K : Nat → Nat} {r l : Int}
theorem c_fin_f (h11 : ¬ I 30 11 = 0) : ∃ L2, FX7_finishHill I L 30 = (I, L2) ∧ FP L L2 := by
  have b : ∀ (M : tq_PL) (k y : Int32), FX7_blame I M 30 k y = I := fun M k y => by unfold FX7_blame; rw [if_neg h11]
  refine ⟨FX3_put I L 32 (1 : Int32) (L 32 2 &&& (L 30 6 ^^^ (-1 : Int64))), ?_, fun a ha => put_fr _ _ _ _ _ a (by unfold psl at ha; omega)⟩
  have j : FX7_finishHill_j30 I L 30 = (I, FX3_put I L 32 (1 : Int32) (L 32 2 &&& (L 30 6 ^^^ (-1 : Int64)))) := by
    unfold FX7_finishHill_j30
    rw [zlet, zlet, zlet, zlet, zlet, rg_30.1, b]
    split <;> rfl
  unfold FX7_finishHill
  rw [zlet, b, j]
  split <;> rfl
/-- what is told in the end -/
def kfin (w h : Nat) (tl : Nat → Bool) (K : Nat → Nat) (p : Nat) : Nat := if tl p then K p else if ar w h p then 1 else 0
theorem c_fin_bad {A : Nat → Int32} (D : HD I L A w h tl K r l) (h11 : I 30 11 = 0) (h7 : I 30 7 = zI (n : Int)) (hb : ∃ p, tl p = true ∧ ar w h p = false) : ∃ I2 L2, FX7_finishHill I L 30 = (I2, L2) ∧ I2 30 11 = 4 ∧ I2 30 12 = zI (n : Int) ∧ FP I I2 ∧ FP L L2 := by
  obtain ⟨X, hX⟩ : ∃ X, X = tq_up2 (tq_up2 I 30 11 (4 : Int32)) 30 12 (zI (n : Int)) := ⟨_, rfl⟩
  have x11 : X 30 11 = 4 := by rw [hX, up_n _ _ (by omega), up_s]
  have b : ∀ (M : tq_PL) (k y : Int32), FX7_blame X M 30 k y = X := fun M k y => by unfold FX7_blame; rw [if_neg (by rw [x11]; decide)]
  have b4 : FX7_blame I L 30 (4 : Int32) (zI (n : Int)) = X := by unfold FX7_blame; rw [if_pos h11, hX]
  refine ⟨X, FX3_put X L 32 (1 : Int32) (L 32 2 &&& (L 30 6 ^^^ (-1 : Int64))), ?_, x11, by rw [hX, up_s], fun a ha => ?_, fun a ha => put_fr _ _ _ _ _ a (by unfold psl at ha; omega)⟩
  · have j : FX7_finishHill_j30 X L 30 = (X, FX3_put X L 32 (1 : Int32) (L 32 2 &&& (L 30 6 ^^^ (-1 : Int64)))) := by
      unfold FX7_finishHill_j30
      rw [zlet, zlet, zlet, zlet, zlet, rg_30.1, b]
      split <;> rfl
    unfold FX7_finishHill
    rw [zlet, h7, b4, j, rg_30.1, if_neg]
    rw [lgc]
    intro e
    obtain ⟨p, p1, p2⟩ := hb
    have := congrArg (fun z => bb z p) e
    rw [bb_minus, bb_0, D.2.2.1, D.2.1.2.2.1, p1, p2] at this
    cases this
  · rw [hX, up_row (by unfold psl at ha; omega), up_row (by unfold psl at ha; omega)]
theorem kfin_z (hb : ∀ p, tl p = true → ar w h p = true) (p : Nat) (hp : ar w h p = false) : kfin w h tl K p = 0 := by
  unfold kfin
  rw [if_neg (fun g => by rw [hb p g] at hp; cases hp), if_neg (by rw [hp]; simp)]
theorem c_fin_ok {A : Nat → Int32} (D : HD I L A w h tl K r l) (h11 : I 30 11 = 0) (h7 : I 30 7 = zI (n : Int)) (hb : ∀ p, tl p = true → ar w h p = true) : ∃ I2 L2, FX7_finishHill I L 30 = (I2, L2) ∧ HC I2 L2 32 w h (kfin w h tl K) ∧ FP I I2 ∧ FP L L2 ∧ ((Stn h (kfin w h tl K) ∧ I2 = I) ∨ (¬ Stn h (kfin w h tl K) ∧ I2 30 11 = 5 ∧ I2 30 12 = zI (n : Int))) := by
  obtain ⟨d1, d2, d3, d4, d5, d6⟩ := D
  obtain ⟨Y, hY⟩ : ∃ Y, Y = L 32 2 &&& (L 30 6 ^^^ (-1 : Int64)) := ⟨_, rfl⟩
  have bY : bb Y = fun p => ar w h p && !tl p := by rw [hY]; funext p; rw [bb_minus, d2.2.2.1, d3]
  obtain ⟨F, T⟩ := c_put I d4 (v := 1) (by omega) Y
  obtain ⟨L2, hL⟩ : ∃ L2, L2 = FX3_put I L 32 (1 : Int32) Y := ⟨_, rfl⟩
  have eL : FX3_put I L 32 (zI ((1 : Nat) : Int)) Y = L2 := hL.symm
  rw [eL] at F T
  have eT : (fun p => if bb Y p then 1 else K p) = kfin w h tl K := funext fun p => by
    rw [bY]
    unfold kfin
    cases e1 : tl p
    · cases e2 : ar w h p
      · simp [d5 p e1, e1, e2]
      · simp [e1, e2]
    · simp [e1]
  rw [eT] at T
  have z := kfin_z (K := K) hb
  have H : HC I L2 32 w h (kfin w h tl K) := HC.of d1 (d2.any rfl rfl (fun j _ _ => F _ _ (by omega))) T z
  have hsol := c_sol H
  have hstd := c_std H hsol (fun p hp => sol_ar z hp)
  have e0 : lg_cmp (L 30 6 &&& (L 32 2 ^^^ (-1 : Int64))) (0 : Int64) = 0 := by
    rw [lgc, bb_eq0]
    intro p _
    rw [bb_minus, d3, d2.2.2.1]
    cases e1 : tl p
    · rfl
    · rw [hb p e1]; rfl
  have fL : FP L L2 := fun a ha => by rw [hL]; exact put_fr _ _ _ _ _ a (by unfold psl at ha; omega)
  unfold FX7_finishHill FX7_finishHill_j30
  rw [rg_30.1, if_pos e0, zlet, ← hY, ← hL, zlet, zlet, zlet, zlet, h7]
  have iff : lg_cmp (FX3_standing I L2 32 (FX3_solid I L2 32)) (FX3_solid I L2 32) = 0 ↔ Stn h (kfin w h tl K) := by
    rw [lgc]
    constructor
    · intro e p hp
      rw [← hstd, e, hsol]
      exact hp
    · intro e
      apply bb_inj
      rw [hstd, hsol]
      exact set_sub_eq (fun _ g => std_sub g) e
  by_cases g : Stn h (kfin w h tl K)
  · rw [if_pos (iff.2 g)]
    exact ⟨I, L2, rfl, H, FP.rf, fL, Or.inl ⟨g, rfl⟩⟩
  · rw [if_neg (fun e => g (iff.1 e))]
    unfold FX7_blame
    rw [if_pos h11]
    refine ⟨_, L2, rfl, H.take (by rw [up_n _ _ (by omega), up_n _ _ (by omega)]) (by rw [up_n _ _ (by omega), up_n _ _ (by omega)]) (fun _ _ _ => rfl), fun a ha => ?_, fL, Or.inr ⟨g, by rw [up_n _ _ (by omega), up_s], by rw [up_s]⟩⟩
    rw [up_row (by unfold psl at ha; omega), up_row (by unfold psl at ha; omega)]
/-! by the reference -/
theorem r_settles (k : wh w h) (h0 : J 139 0 = zI (w : Int)) (h1 : J 139 1 = zI (h : Int)) : ∃ X, FX12_settles J M 136 = some X ∧ (∀ b, b ≠ 139 → b ≠ 140 → X b = J b) ∧ (X 139 0 = zI (w : Int) ∧ X 139 1 = zI (h : Int)) ∧ (∀ c, c < w * h → X 140 c = J 139 (2 + pl w c)) ∧ ∀ c, c < w * h → X 139 (2 + c) = J 139 (2 + pl w c) := by
  have k' := k
  obtain ⟨k1, k2, k3, k4⟩ := k'
  have h48 := wh_le k
  have ew : zI (w : Int) * zI (h : Int) = zI ((w * h : Nat) : Int) := by rw [zI_mul, Int.natCast_mul]
  obtain ⟨Y, eY, FY2, VY⟩ := it_for (f := fun p : Int32 × tq_PI => FX12_settles_s2 p.2 M 136 p.1) (fun c (s : tq_PI) => (zI (c : Int), s)) 48 (fun c X => FC 140 J X ∧ ∀ d, d < c → d < w * h → X 140 d = J 139 (2 + pl w d)) (Post := fun X => FC 140 J X ∧ ∀ d, d < 48 → d < w * h → X 140 d = J 139 (2 + pl w d)) (fun c X hc hX => by
    obtain ⟨F, V⟩ := hX
    have x0 : X 139 0 = zI (w : Int) := by rw [F 139 (by omega)]; exact h0
    have x1 : X 139 1 = zI (h : Int) := by rw [F 139 (by omega)]; exact h1
    have en : (zI (c : Int)).toNatClampNeg = c := by rw [zI_cl (by omega), Int.toNat_natCast]
    have ic : (0 : Int32) ≤ zI (c : Int) ∧ zI (c : Int) < 192 := ⟨by rw [show (0 : Int32) = zI 0 from rfl, zI_le (by omega) (by omega)]; omega, by rw [zI_lit, zI_lt (by omega) (by omega)]; omega⟩
    have wne : ¬ zI (w : Int) = 0 := by rw [show (0 : Int32) = zI 0 from rfl, zI_eq (by omega) (by omega)]; omega
    have go : ∀ y : Int32, (c < w * h → y = J 139 (2 + pl w c)) → ∃ s2, FX12_settles_j61L2 X M 136 (zI (c : Int)) y (zI (c : Int)) 140 = some (.inl (zI ((c + 1 : Nat) : Int), s2)) ∧ FC 140 J s2 ∧ ∀ d, d < c + 1 → d < w * h → s2 140 d = J 139 (2 + pl w d) := fun y hy => by
      unfold FX12_settles_j61L2
      rw [if_pos ic, en, z_suc]
      refine ⟨_, rfl, F.tr FC.up, fun d hd hd2 => ?_⟩
      by_cases e : d = c
      · subst e; rw [up_s]; exact hy hd2
      · rw [up_n _ _ (by omega)]; exact V d (by omega) hd2
    dsimp only
    unfold FX12_settles_s2
    rw [g11, g15, e0n, e1n, x0, x1, ew, if_neg (by rw [zI_lit, zI_le (by omega) (by omega)]; omega), if_pos i0_121, if_pos i1_121]
    by_cases g : w * h ≤ c
    · rw [if_pos (by rw [zI_le (by omega) (by omega)]; omega)]
      exact Or.inl (go 0 (fun h => by omega))
    · have pl48 := pl_48 k (c := c) (by omega)
      have ei : (2 : Int32) + (8 : Int32) * (zI (c : Int) / zI (w : Int)) + (zI (c : Int) - zI (c : Int) / zI (w : Int) * zI (w : Int)) = zI ((2 + pl w c : Nat) : Int) := by
        rw [zI_rem (by omega) (by omega), zI_div (by omega) (by omega), show (2 : Int32) = zI 2 from rfl, show (8 : Int32) = zI 8 from rfl, zI_mul, zI_add, zI_add]
        congr 1
        unfold pl
        rw [Int.natCast_add, Int.natCast_add, Int.natCast_mul, Int.natCast_ediv, Int.natCast_emod, Int.add_assoc]
        rfl
      rw [if_neg (by rw [zI_le (by omega) (by omega)]; omega), if_pos wne, if_pos i0_121, if_pos i0_121, if_pos wne, ei, if_pos ⟨by rw [show (0 : Int32) = zI 0 from rfl, zI_le (by omega) (by omega)]; omega, by rw [zI_lit, zI_lt (by omega) (by omega)]; omega⟩, zI_cl (by omega), Int.toNat_natCast]
      exact Or.inl (go _ (fun _ => by rw [F 139 (by omega)]))) (fun X hX => ⟨X, by
    dsimp only
    unfold FX12_settles_s2
    rw [if_pos (by decide)], hX⟩) 0 J (by omega) (by omega) ⟨FC.rf, fun d hd => by omega⟩
  obtain ⟨X, eX, FX2, VX⟩ := it_for (f := fun p : Int32 × tq_PI => FX12_settles_s70 p.2 M 136 p.1) (fun c (s : tq_PI) => (zI (c : Int), s)) 48 (fun c X => FC 139 Y X ∧ (∀ j, j < 2 → X 139 j = Y 139 j) ∧ ∀ d, d < c → X 139 (2 + d) = Y 140 d) (Post := fun X => FC 139 Y X ∧ (∀ j, j < 2 → X 139 j = Y 139 j) ∧ ∀ d, d < 48 → X 139 (2 + d) = Y 140 d) (fun c X hc hX => by
    obtain ⟨F, V0, V⟩ := hX
    have en : (zI (c : Int)).toNatClampNeg = c := by rw [zI_cl (by omega), Int.toNat_natCast]
    have ei : (2 : Int32) + zI (c : Int) = zI ((2 + c : Nat) : Int) := by rw [show (2 : Int32) = zI 2 from rfl, zI_add]; congr 1
    have en2 : (zI ((2 + c : Nat) : Int)).toNatClampNeg = 2 + c := by rw [zI_cl (by omega), Int.toNat_natCast]
    dsimp only
    unfold FX12_settles_s70
    rw [if_neg (by rw [zI_lit, zI_le (by omega) (by omega)]; omega), if_pos ⟨by rw [show (0 : Int32) = zI 0 from rfl, zI_le (by omega) (by omega)]; omega, by rw [zI_lit, zI_lt (by omega) (by omega)]; omega⟩, ei, if_pos ⟨by rw [show (0 : Int32) = zI 0 from rfl, zI_le (by omega) (by omega)]; omega, by rw [zI_lit, zI_lt (by omega) (by omega)]; omega⟩, g11, g15, en, en2, z_suc]
    refine Or.inl ⟨_, rfl, F.tr FC.up, fun j hj => by rw [up_n _ _ (by omega)]; exact V0 j hj, fun d hd => ?_⟩
    by_cases e : d = c
    · subst e; rw [up_s, F 140 (by omega)]
    · rw [up_n _ _ (by omega)]; exact V d (by omega)) (fun X hX => ⟨X, by
    dsimp only
    unfold FX12_settles_s70
    rw [if_pos (by decide)], hX⟩) 0 Y (by omega) (by omega) ⟨FC.rf, fun _ _ => rfl, fun d hd => by omega⟩
  have eY' : tq_it (fun p : Int32 × tq_PI => FX12_settles_s2 p.2 M 136 p.1) tq_N ((0 : Int32), J) = some Y := eY
  have eX' : tq_it (fun p : Int32 × tq_PI => FX12_settles_s70 p.2 M 136 p.1) tq_N ((0 : Int32), Y) = some X := eX
  refine ⟨X, ?_, fun b b1 b2 => by rw [FX2 b b1, FY2 b b2], ⟨?_, ?_⟩, fun c hc => ?_, fun c hc => ?_⟩
  · unfold FX12_settles
    rw [eY', obind, eX', obind]
  · rw [VX.1 0 (by omega), FY2 139 (by omega)]; exact h0
  · rw [VX.1 1 (by omega), FY2 139 (by omega)]; exact h1
  · rw [FX2 140 (by omega)]; exact VY c (by omega) hc
  · rw [VX.2 c (by omega)]; exact VY c (by omega) hc
end FH
