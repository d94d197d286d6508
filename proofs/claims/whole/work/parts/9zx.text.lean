/-! TEXT: all lines in both. -/
section TL
variable {I0 I J : tq_PI} {L0 L M : tq_PL} {B : Nat → Nat} {n p s : Nat} {x : Nat × Int} {ln : tq_PI → Option tq_PI} {DR : tq_PI → tq_PL → tq_PI → Nat × Int → Prop}
theorem pp_ge : ∀ i, p ≤ pp B n p i
  | 0 => Nat.le_refl _
  | i + 1 => Nat.le_trans (pp_ge i) (Nat.le_trans tS_ge tE_ge)
theorem CRd.any {K : tq_PI} (C : CRd I B n p x) (h30 : K 30 = I 30) (h31 : K 31 = I 31) : CRd K B n p x := by
  obtain ⟨c1, c2, c3, c4, c5, c6⟩ := C
  exact ⟨c1.any (by rw [h30]) h31, c2, by rw [h30]; exact c3, by rw [h30]; exact c4, by rw [h30]; exact c5, c6⟩
theorem FU2.fp (F : FU2 I J) : FP I J := fun b hb => F b (by unfold psl at hb; omega) (by unfold psl at hb; omega)
def LPost (B : Nat → Nat) (n : Nat) (DR : tq_PI → tq_PL → tq_PI → Nat × Int → Prop) (I0 : tq_PI) (L0 : tq_PL) (J0 : tq_PI) (b : (tq_PI × tq_PL) ⊕ (tq_PI × tq_PL)) (d : tq_PI) : Prop := FRD J0 d ∧ ((∃ I2 L2 p q x, b = .inl (I2, L2) ∧ CRd I2 B n q x ∧ RRd d B n p x ∧ tK B n p = 0 ∧ DR I2 L2 d x ∧ FP I0 I2 ∧ FP L0 L2) ∨ ∃ I2 L2 q, b = .inr (I2, L2) ∧ I2 30 11 = 1 ∧ I2 30 12 = zI ((q : Nat) : Int) ∧ WWr d q ∧ FP I0 I2 ∧ FP L0 L2)
theorem t_loop {a2 : Int32} (S : LST M ln s DR) (hs : s < 4) (hD : ∀ I I2 L J x, DR I L J x → FU2 I I2 → DR I2 L J x) (hln : ∀ J, FX12_text_s100 J M 136 (zI (s : Int)) a2 = if J 136 8 = 0 then (if J 136 5 = 0 then some (.inr J) else (ln J).bind fun r => some (.inl r)) else some (.inr J)) (C : CRd I B n 0 x) (R : RRd J B n 0 x) (D : DR I L J x) : ∃ b d, tq_it (fun q : Int32 × tq_PI × tq_PL => FX7_read_s43 q.2.1 q.2.2 30 (zI (s : Int)) q.1) tq_N ((0 : Int32), I, L) = some b ∧ tq_it (fun q : tq_PI => FX12_text_s100 q M 136 (zI (s : Int)) a2) tq_N J = some d ∧ LPost B n DR I L J b d := by
  have c600 := C.1.1
  refine it_2 (R := fun m (a : Int32 × tq_PI × tq_PL) c => ∃ (t : Nat) (I1 : tq_PI) (L1 : tq_PL) (p : Nat) (x : Nat × Int), a = (zI (t : Int), I1, L1) ∧ t ≤ p ∧ m = n - p ∧ CRd I1 B n p x ∧ RRd c B n p x ∧ DR I1 L1 c x ∧ FP I I1 ∧ FP L L1 ∧ FRD J c) (fun m a c h => ?_) tq_N n ((0 : Int32), I, L) J (by rw [tq_N_eq]; omega) ⟨0, I, L, 0, x, rfl, Nat.le_refl _, rfl, C, R, D, FP.rf, FP.rf, FRD.rf⟩
  obtain ⟨t, I1, L1, p, x, rfl, tp, rfl, C1, R1, D1, f1, f2, f3⟩ := h
  have pn := C1.2.1
  have k4 := tK_le (B := B) (n := n) (p := p)
  have rl := rK_le (k := tK B n p) (w := tW B n p)
  have g8 : c 136 8 = 0 := R1.2.2.2.1
  have g5 : c 136 5 = zI (rK (tK B n p) (tW B n p) : Nat) := R1.2.2.1.2.2.1
  have st := S I1 L1 c B n p x C1 R1 D1
  have wst : ∀ (K : tq_PI) (q : Nat), WWr K q → FX12_text_s100 K M 136 (zI (s : Int)) a2 = some (.inr K) := fun K q W => by
    rw [hln, if_neg (by rw [W.1]; decide)]
  have gl : tK B n p ≠ 0 → FX12_text_s100 c M 136 (zI (s : Int)) a2 = (ln c).bind fun r => some (.inl r) := fun h => by
    have : rK (tK B n p) (tW B n p) ≠ 0 := fun g => h ((rK_0 k4).1 g)
    rw [hln, if_pos g8, if_neg (by rw [g5, show (0 : Int32) = zI 0 from rfl, zI_eq (by omega) (by omega)]; omega)]
  rcases c_step (L := L1) (t := t) hs (by omega) C1 with ⟨k0, J1, e, C2, F⟩ | ⟨k0, hk, J1, e, j11, j12, F⟩ | ⟨k1, w, hw, w5, h⟩
  · refine Or.inr (Or.inl ⟨_, c, e, ?_, f3, Or.inl ⟨J1, L1, p, _, x, rfl, C2, R1, k0, hD _ _ _ _ _ D1 F, f1.tr F.fp, f2⟩⟩)
    rw [hln, if_pos g8, if_pos (by rw [g5, (rK_0 k4).2 k0]; rfl)]
  · obtain ⟨K, eK, W, FK2⟩ := (st k0).1 hk
    refine Or.inr (Or.inr ⟨_, K, K, e, ?_, wst K _ W, f3.tr FK2, Or.inr ⟨J1, L1, _, rfl, j11, j12, W, f1.tr F.fp, f2⟩⟩)
    rw [gl k0, eK, obind]
  · obtain ⟨s1, s2⟩ := (st (by omega)).2 k1 w hw
    rcases h with ⟨ok, J1, e, C2, hv, F⟩ | ⟨J1, q, e, er, j11, j12, F⟩
    · obtain ⟨K, I2, L2, eK, et, ⟨h30, h31⟩, RK2, DK, FK2, p1, p2⟩ := s1 ok J1 hv F C2.2.2.2.1
      have gt := tE_gt (B := B) (n := n) (p := p) (by omega)
      have sg := tS_ge (B := B) (n := n) (p := p)
      have pg := pp_ge (B := B) (n := n) (p := tE B n p) (nmn s w)
      have pl := Nat.le_trans (tS_ge (B := B) (n := n) (p := pp B n (tE B n p) (nmn s w))) tE_ge
      have pe := C2.2.1
      refine Or.inl ⟨(zI ((t + 1 : Nat) : Int), I2, L2), K, n - tE B n (pp B n (tE B n p) (nmn s w)), ?_, ?_, by omega, t + 1, I2, L2, _, _, rfl, by omega, rfl, C2.any h30 h31, RK2, DK, (f1.tr F.fp).tr p1, f2.tr p2, f3.tr FK2⟩
      · rw [e, et, obind]
      · rw [gl (by omega), eK, obind]
    · obtain ⟨K, eK, W, FK2⟩ := s2 q er
      refine Or.inr (Or.inr ⟨_, K, K, e, ?_, wst K _ W, f3.tr FK2, Or.inr ⟨J1, L1, q, rfl, j11, j12, W, f1.tr F.fp, f2⟩⟩)
      rw [gl (by omega), eK, obind]
end TL
/-! the beginning -/
theorem c_begin (I : tq_PI) (L : tq_PL) : ∃ I2 L2, FX7_begin I L 30 = some (I2, L2) ∧ (I2 30 8 = 0 ∧ I2 30 11 = 0 ∧ I2 30 12 = -1 ∧ I2 30 7 = I 30 7) ∧ (I2 33 0 = 0 ∧ I2 37 0 = 0 ∧ I2 40 0 = 0) ∧ (SZ I2 L2 32 6 4 ∧ HS L2 32 (fun _ => 0) ∧ bb (L2 30 6) = fun _ => false) ∧ (∀ b, b ≠ 30 → b ≠ 32 → b ≠ 33 → b ≠ 37 → b ≠ 40 → I2 b = I b) ∧ ∀ b, b ≠ 30 → b ≠ 32 → L2 b = L b := by
  obtain ⟨X, hX⟩ : ∃ X, X = tq_up2 (tq_up2 (tq_up2 I 30 8 (0 : Int32)) 30 11 (0 : Int32)) 30 12 (-1 : Int32) := ⟨_, rfl⟩
  obtain ⟨Y, hY⟩ : ∃ Y, Y = FX3_clear X (tq_up2 L 30 6 (0 : Int64)) 32 := ⟨_, rfl⟩
  have y6 : Y 32 6 = 0 ∧ Y 32 7 = 0 ∧ Y 32 8 = 0 ∧ Y 32 9 = 0 := by
    rw [hY]
    unfold FX3_clear
    refine ⟨?_, ?_, ?_, ?_⟩
    · rw [up_n _ _ (by omega), up_n _ _ (by omega), up_n _ _ (by omega), up_s]
    · rw [up_n _ _ (by omega), up_n _ _ (by omega), up_s]
    · rw [up_n _ _ (by omega), up_s]
    · rw [up_s]
  have yn : ∀ b j, b ≠ 32 → Y b j = (tq_up2 L 30 6 (0 : Int64)) b j := fun b j h => by
    rw [hY]
    unfold FX3_clear
    rw [up_n _ _ (Or.inl h), up_n _ _ (Or.inl h), up_n _ _ (Or.inl h), up_n _ _ (Or.inl h)]
  have HY : HS Y 32 (fun _ => 0) := by
    refine ⟨fun _ => Nat.zero_le _, ?_, ?_, ?_, ?_⟩
    · rw [y6.1]; funext p; rw [bb_0]; rfl
    · rw [y6.2.1]; funext p; rw [bb_0]; rfl
    · rw [y6.2.2.1]; funext p; rw [bb_0]; rfl
    · rw [y6.2.2.2]; funext p; rw [bb_0]; rfl
  obtain ⟨Z, W, e, S, F, G⟩ := c_size (I := X) (L := Y) (a := 32) (w := 6) (h := 4) (by unfold wh; omega)
  have e' : FX3_size X Y 32 (6 : Int32) (4 : Int32) = some (Z, W) := e
  refine ⟨tq_up2 (tq_up2 (tq_up2 Z 33 0 (0 : Int32)) 37 0 (0 : Int32)) 40 0 (0 : Int32), W, ?_, ⟨?_, ?_, ?_, ?_⟩, ⟨?_, ?_, ?_⟩, ⟨?_, ?_, ?_⟩, fun b h1 h2 h3 h4 h5 => ?_, fun b h1 h2 => ?_⟩
  · unfold FX7_begin
    rw [zlet, rg_30.1, ← hX, ← hY, e', obind, rg_30.2.1, rg_30.2.2.1, rg_30.2.2.2]
  · rw [up_n _ _ (by omega), up_n _ _ (by omega), up_n _ _ (by omega), F _ _ (by omega), hX, up_n _ _ (by omega), up_n _ _ (by omega), up_s]
  · rw [up_n _ _ (by omega), up_n _ _ (by omega), up_n _ _ (by omega), F _ _ (by omega), hX, up_n _ _ (by omega), up_s]
  · rw [up_n _ _ (by omega), up_n _ _ (by omega), up_n _ _ (by omega), F _ _ (by omega), hX, up_s]
  · rw [up_n _ _ (by omega), up_n _ _ (by omega), up_n _ _ (by omega), F _ _ (by omega), hX, up_n _ _ (by omega), up_n _ _ (by omega), up_n _ _ (by omega)]
  · rw [up_n _ _ (by omega), up_n _ _ (by omega), up_s]
  · rw [up_n _ _ (by omega), up_s]
  · rw [up_s]
  · exact S.any (by rw [up_n _ _ (by omega), up_n _ _ (by omega), up_n _ _ (by omega)]) (by rw [up_n _ _ (by omega), up_n _ _ (by omega), up_n _ _ (by omega)]) (fun _ _ _ => rfl)
  · exact HY.any (fun j _ _ => G _ _ (by omega))
  · rw [G _ _ (by omega), yn _ _ (by omega), up_s]
    funext p
    rw [bb_0]
  · rw [up_row h5, up_row h4, up_row h3]
    funext j
    rw [F _ _ (Or.inl h2), hX, up_n _ _ (Or.inl h1), up_n _ _ (Or.inl h1), up_n _ _ (Or.inl h1)]
  · funext j
    rw [G _ _ (Or.inl h2), yn _ _ h2, up_n _ _ (Or.inl h1)]
theorem r_begt {J : tq_PI} {M : tq_PL} {s : Nat} (hs : s < 4) : ∃ K, FX12_begins0 J M 136 (zI (s : Int)) = some K ∧ (∀ b, b ≠ 139 → K b = J b) ∧ (s ≠ 0 → K 139 0 = 0) ∧ (s = 0 → K 139 0 = 6 ∧ K 139 1 = 4 ∧ ∀ j, 2 ≤ j → j < 121 → K 139 j = 1) := by
  have es : (zI (s : Int) = (0 : Int32)) = (s = 0) := by rw [show (0 : Int32) = zI 0 from rfl, zI_eq (by omega) (by omega)]; apply propext; omega
  obtain ⟨K, e, F, V⟩ := it_for (f := fun p : Int32 × tq_PI => FX12_begins0_s2 p.2 M 136 (zI (s : Int)) p.1) (fun k (s : tq_PI) => (zI (k : Int), s)) 121 (fun k K => (∀ b, b ≠ 139 → K b = J b) ∧ ∀ j, j < k → K 139 j = if s = 0 ∧ 1 < j then 1 else 0) (Post := fun K => (∀ b, b ≠ 139 → K b = J b) ∧ ∀ j, j < 121 → K 139 j = if s = 0 ∧ 1 < j then 1 else 0) (fun k K hk hK => by
    obtain ⟨F, V⟩ := hK
    have en : (zI (k : Int)).toNatClampNeg = k := by rw [zI_cl (by omega), Int.toNat_natCast]
    have ic : (0 : Int32) ≤ zI (k : Int) ∧ zI (k : Int) < 121 := ⟨by rw [show (0 : Int32) = zI 0 from rfl, zI_le (by omega) (by omega)]; omega, by rw [zI_lit, zI_lt (by omega) (by omega)]; omega⟩
    have go : ∀ y : Int32, (y = if s = 0 ∧ 1 < k then 1 else 0) → ∃ s2, FX12_begins0_j27L2 K M 136 (zI (s : Int)) (zI (k : Int)) y (zI (k : Int)) 139 = some (.inl (zI ((k + 1 : Nat) : Int), s2)) ∧ (∀ b, b ≠ 139 → s2 b = J b) ∧ ∀ j, j < k + 1 → s2 139 j = if s = 0 ∧ 1 < j then 1 else 0 := fun y hy => by
      unfold FX12_begins0_j27L2
      rw [if_pos ic, en, z_suc]
      refine ⟨_, rfl, fun b hb => by rw [up_row hb]; exact F b hb, fun j hj => ?_⟩
      by_cases q : j = k
      · subst q; rw [up_s]; exact hy
      · rw [up_n _ _ (by omega)]; exact V j (by omega)
    dsimp only
    unfold FX12_begins0_s2 FX12_begins0_j26L2
    rw [if_neg (by rw [zI_lit, zI_le (by omega) (by omega)]; omega), g11]
    by_cases q : s = 0
    · rw [if_pos (by rw [es]; exact q)]
      by_cases q1 : k ≤ 1
      · rw [if_pos (by rw [zI_lit, zI_le (by omega) (by omega)]; omega)]
        exact Or.inl (go 0 (by rw [if_neg (by omega)]))
      · rw [if_neg (by rw [zI_lit, zI_le (by omega) (by omega)]; omega)]
        exact Or.inl (go 1 (by rw [if_pos (by omega)]))
    · rw [if_neg (by rw [es]; exact q)]
      exact Or.inl (go 0 (by rw [if_neg (by omega)]))) (fun K hK => ⟨K, by
    dsimp only
    unfold FX12_begins0_s2
    rw [if_pos (by decide)], hK⟩) 0 J (by omega) (by omega) ⟨fun _ _ => rfl, fun j hj => by omega⟩
  have e' : tq_it (fun p : Int32 × tq_PI => FX12_begins0_s2 p.2 M 136 (zI (s : Int)) p.1) tq_N ((0 : Int32), J) = some K := e
  unfold FX12_begins0
  rw [e', obind, g11, e0n, e1n]
  by_cases q : s = 0
  · rw [if_pos (by rw [es]; exact q), if_pos i0_121, if_pos i1_121]
    refine ⟨_, rfl, fun b hb => by rw [up_row hb, up_row hb]; exact F b hb, fun h => absurd q h, fun _ => ⟨by rw [up_n _ _ (by omega), up_s], by rw [up_s], fun j h1 h2 => ?_⟩⟩
    rw [up_n _ _ (by omega), up_n _ _ (by omega), V j h2, if_pos ⟨q, by omega⟩]
  · rw [if_neg (by rw [es]; exact q)]
    refine ⟨_, rfl, F, fun _ => ?_, fun h => absurd h q⟩
    rw [V 0 (by omega), if_neg (by omega)]
