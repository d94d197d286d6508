/-! TEXT: a text read in both. -/
theorem mm600 {n : Nat} (h : n ≤ 600) : (if (0 : Int32) < (if (if (600 : Int32) < (600 : Int32) then (600 : Int32) else (600 : Int32)) < zI (n : Int) then (if (600 : Int32) < (600 : Int32) then (600 : Int32) else (600 : Int32)) else zI (n : Int)) then (if (if (600 : Int32) < (600 : Int32) then (600 : Int32) else (600 : Int32)) < zI (n : Int) then (if (600 : Int32) < (600 : Int32) then (600 : Int32) else (600 : Int32)) else zI (n : Int)) else (0 : Int32)) = zI (n : Int) := by
  have e1 : (if (600 : Int32) < (600 : Int32) then (600 : Int32) else (600 : Int32)) = 600 := if_neg (by decide)
  rw [e1]
  have e2 : (if (600 : Int32) < zI (n : Int) then (600 : Int32) else zI (n : Int)) = zI (n : Int) := if_neg (by rw [zI_lit, zI_lt (by omega) (by omega)]; omega)
  rw [e2]
  by_cases g : n = 0
  · subst g; rfl
  · rw [if_pos (by rw [show (0 : Int32) = zI 0 from rfl, zI_lt (by omega) (by omega)]; omega)]
section TR2
variable {X Z : tq_PI} {L M : tq_PL} {B : Nat → Nat} {n s : Nat} {ln : tq_PI → Option tq_PI} {DR : tq_PI → tq_PL → tq_PI → Nat × Int → Prop}
theorem t_begin {a2 : Int32} (n6 : n ≤ 600) (hB : ∀ i, i < n → B i < 256 ∧ X 2 i = (zI (B i : Nat)).toInt8.toInt32 ∧ Z 137 (10 + i) = zI (B i : Nat)) (z2 : Z 136 2 = zI (n : Int)) (z5 : Z 137 5 = 0) (z6 : Z 137 6 = -1) (S : LST M ln s DR) (hs : s < 4) (hD : ∀ I I2 L J x, DR I L J x → FU2 I I2 → DR I2 L J x) (hln : ∀ J, FX12_text_s100 J M 136 (zI (s : Int)) a2 = if J 136 8 = 0 then (if J 136 5 = 0 then some (.inr J) else (ln J).bind fun r => some (.inl r)) else some (.inr J)) (hI : ∀ I1 L1 J1, (I1 33 0 = 0 ∧ I1 37 0 = 0 ∧ I1 40 0 = 0) → (SZ I1 L1 32 6 4 ∧ HS L1 32 (fun _ => 0) ∧ bb (L1 30 6) = fun _ => false) → ((s ≠ 0 → J1 139 0 = 0) ∧ (s = 0 → J1 139 0 = 6 ∧ J1 139 1 = 4 ∧ ∀ j, 2 ≤ j → j < 121 → J1 139 j = 1)) → J1 136 9 = -1 → J1 136 10 = -1 → DR I1 L1 J1 (0, -1)) : ∃ b d I1 L1 J1, FX7_read X L 30 2 (zI (n : Int)) (zI (s : Int)) = Sum.elim (fun t : tq_PI × tq_PL => if zI (s : Int) = 0 then tq_let (FX7_finishHill t.1 t.2 30) fun r => some (r.1, r.2) else some (t.1, t.2)) (fun t => some t) b ∧ FX12_text_j71 Z M 136 (zI (s : Int)) a2 = (if (0 : Int32) ≤ (5 : Int32) ∧ (5 : Int32) < 4016 then (if d 137 5 = 0 then (if zI (s : Int) = 0 then ((FX12_hillFault d M 136).bind fun r => if r.1 = 0 then FX12_text_j199 r.2 M 136 (zI (s : Int)) a2 else (FX12_also r.2 M 136 r.1 (r.2 136 4)).bind fun t => FX12_text_j199 t M 136 (zI (s : Int)) a2) else FX12_text_j199 d M 136 (zI (s : Int)) a2) else FX12_text_j199 d M 136 (zI (s : Int)) a2) else none) ∧ LPost B n DR I1 L1 J1 b d ∧ FP X I1 ∧ FP L L1 ∧ FRE Z J1 := by
  have nn : (zI (n : Int)).toNatClampNeg = n := by rw [zI_cl (by omega), Int.toNat_natCast]
  obtain ⟨Y, hY⟩ : ∃ Y, Y = tq_cpr (tq_up2 X 30 7 (zI (n : Int))) 2 31 0 0 (zI (n : Int)) := ⟨_, rfl⟩
  have y7 : Y 30 7 = zI (n : Int) := by rw [hY, cpr_n (by omega), up_s]
  have y31 : ∀ j, j < n → Y 31 j = X 2 j := fun j hj => by rw [hY, cpr_s (by rw [nn]; exact hj), up_row (by omega)]
  obtain ⟨I1, L1, eb, ⟨b1, b2, b3, b4⟩, bm, bh, bf, bl⟩ := c_begin Y L
  have C : CRd I1 B n 0 (0, -1) := by
    refine ⟨⟨n6, by rw [b4]; exact y7, fun i hi => ?_⟩, Nat.zero_le _, b1, b2, b3, by omega⟩
    obtain ⟨h1, h2, -⟩ := hB i hi
    exact ⟨h1, by rw [bf 31 (by omega) (by omega) (by omega) (by omega) (by omega), y31 i hi]; exact h2⟩
  obtain ⟨W, hW⟩ : ∃ W, W = tq_up2 (tq_up2 (tq_up2 (tq_up2 Z 136 3 (0 : Int32)) 136 8 (0 : Int32)) 136 9 (-1 : Int32)) 136 10 (-1 : Int32) := ⟨_, rfl⟩
  have w8 : W 136 8 = 0 := by rw [hW, up_n _ _ (by omega), up_n _ _ (by omega), up_s]
  have w3 : W 136 3 = 0 := by rw [hW, up_n _ _ (by omega), up_n _ _ (by omega), up_n _ _ (by omega), up_s]
  have w9 : W 136 9 = -1 := by rw [hW, up_n _ _ (by omega), up_s]
  have w10 : W 136 10 = -1 := by rw [hW, up_s]
  have w2 : W 136 2 = zI (n : Int) := by rw [hW, up_n _ _ (by omega), up_n _ _ (by omega), up_n _ _ (by omega), up_n _ _ (by omega)]; exact z2
  have wr : ∀ b, b ≠ 136 → W b = Z b := fun b hb => by rw [hW, up_row hb, up_row hb, up_row hb, up_row hb]
  obtain ⟨V, eV, fV, v1, v2⟩ := r_begt (J := W) (M := M) hs
  have RV : RTp V B n := ⟨n6, by rw [fV 136 (by omega)]; exact w2, fun i hi => by
    obtain ⟨h1, -, h3⟩ := hB i hi
    exact ⟨h1, by rw [fV 137 (by omega), wr 137 (by omega)]; exact h3⟩⟩
  obtain ⟨J1, eJ, FJ, AJ⟩ := r_adv (M := M) RV (Nat.zero_le n) (by rw [fV 136 (by omega), w3]; rfl)
  have R : RRd J1 B n 0 (0, -1) := ⟨RV.ft FJ, Nat.zero_le _, AJ, by rw [FJ _ _ (by omega), fV 136 (by omega)]; exact w8, by rw [FJ _ _ (by omega), fV 137 (by omega), wr 137 (by omega), z5]; rfl, by rw [FJ _ _ (by omega), fV 137 (by omega), wr 137 (by omega), z6]; rfl, by omega, fun h => absurd rfl h⟩
  have j139 : J1 139 = V 139 := funext fun j => FJ _ _ (by omega)
  have D := hI I1 L1 J1 bm bh (by rw [j139]; exact ⟨v1, v2⟩) (by rw [FJ _ _ (by omega), fV 136 (by omega)]; exact w9) (by rw [FJ _ _ (by omega), fV 136 (by omega)]; exact w10)
  obtain ⟨b, d, e1, e2, P⟩ := t_loop (a2 := a2) S hs hD hln C R D
  refine ⟨b, d, I1, L1, J1, ?_, ?_, P, fun a ha => ?_, fun a ha => bl a (by unfold psl at ha; omega) (by unfold psl at ha; omega), fun b j q1 q2 q3 q4 => ?_⟩
  · unfold FX7_read
    rw [mm600 n6, up_s, rg_30_0, ← hY, if_pos ⟨⟨by decide, by decide, by rw [show (0 : Int32) = zI 0 from rfl, zI_le (by omega) (by omega)]; omega⟩, by rw [nn, e0n]; omega, by rw [nn, e0n]; omega⟩, eb, obind]
    exact (congrArg (fun o => Option.bind o _) e1).trans (obind _ _)
  · unfold FX12_text_j71
    rw [← hW, eV, obind, eJ, obind, e2, obind, g0, e5n]
  · rw [bf a (by unfold psl at ha; omega) (by unfold psl at ha; omega) (by unfold psl at ha; omega) (by unfold psl at ha; omega) (by unfold psl at ha; omega), hY, cpr_n (by unfold psl at ha; omega), up_row (by unfold psl at ha; omega)]
  · rw [FJ _ _ (Or.inl q1), fV b q2, wr b q1]
/-- what is read at last, without a fault -/
def DF (s : Nat) (I : tq_PI) (L : tq_PL) (J : tq_PI) : Prop := (s = 0 → ∃ w h K, HC I L 32 w h K ∧ Stn h K ∧ J 139 0 = zI (w : Int) ∧ J 139 1 = zI (h : Int) ∧ ∀ c, c < w * h → J 139 (2 + c) = zI (K (pl w c) : Nat)) ∧ (s = 1 → ∃ m yk yf ys, YD I 33 (J 139) 0 m yk yf ys) ∧ (s = 2 → ∃ m lc lh, LD I 37 (J 139) 0 m lc lh) ∧ (s = 3 → ∃ m tw, TD I 40 (J 139) 0 m tw)
def RDD (s : Nat) (X : tq_PI) (L : tq_PL) (Z : tq_PI) (M : tq_PL) (n : Nat) (a2 : Int32) : Prop := ∃ I2 L2 J2, FX7_read X L 30 2 (zI (n : Int)) (zI (s : Int)) = some (I2, L2) ∧ FX12_text_j71 Z M 136 (zI (s : Int)) a2 = FX12_text_j199 J2 M 136 (zI (s : Int)) a2 ∧ FP X I2 ∧ FP L L2 ∧ FRE Z J2 ∧ ∃ f : Nat, f ≤ 5 ∧ I2 30 11 = zI (f : Int) ∧ J2 137 5 = zI (f : Int) ∧ J2 137 6 = I2 30 12 ∧ (f = 0 → DF s I2 L2 J2)
theorem t_tail {a2 : Int32} {b : (tq_PI × tq_PL) ⊕ (tq_PI × tq_PL)} {d I1 J1 : tq_PI} {L1 : tq_PL} (h1 : s ≠ 0) (hs : s < 4) (er : FX7_read X L 30 2 (zI (n : Int)) (zI (s : Int)) = Sum.elim (fun t : tq_PI × tq_PL => if zI (s : Int) = 0 then tq_let (FX7_finishHill t.1 t.2 30) fun r => some (r.1, r.2) else some (t.1, t.2)) (fun t => some t) b) (et : FX12_text_j71 Z M 136 (zI (s : Int)) a2 = (if (0 : Int32) ≤ (5 : Int32) ∧ (5 : Int32) < 4016 then (if d 137 5 = 0 then (if zI (s : Int) = 0 then ((FX12_hillFault d M 136).bind fun r => if r.1 = 0 then FX12_text_j199 r.2 M 136 (zI (s : Int)) a2 else (FX12_also r.2 M 136 r.1 (r.2 136 4)).bind fun t => FX12_text_j199 t M 136 (zI (s : Int)) a2) else FX12_text_j199 d M 136 (zI (s : Int)) a2) else FX12_text_j199 d M 136 (zI (s : Int)) a2) else none)) (P : LPost B n DR I1 L1 J1 b d) (f1 : FP X I1) (f2 : FP L L1) (f3 : FRE Z J1) (hDF : ∀ I L J x, DR I L J x → x.1 = 0 → DF s I L J) : RDD s X L Z M n a2 := by
  have ns : ¬ zI (s : Int) = 0 := by rw [show (0 : Int32) = zI 0 from rfl, zI_eq (by omega) (by omega)]; omega
  have et2 : FX12_text_j71 Z M 136 (zI (s : Int)) a2 = FX12_text_j199 d M 136 (zI (s : Int)) a2 := by
    rw [et, if_pos i5, if_neg ns]
    split <;> rfl
  obtain ⟨g1, g2⟩ := P
  rcases g2 with ⟨I2, L2, p, q, x, rfl, C, R, k0, D, p1, p2⟩ | ⟨I2, L2, q, rfl, b11, b12, W, p1, p2⟩
  · refine ⟨I2, L2, d, ?_, et2, f1.tr p1, f2.tr p2, f3.tr g1.re, x.1, C.2.2.2.2.2, C.2.2.2.1, R.2.2.2.2.1, by rw [R.2.2.2.2.2.1, C.2.2.2.2.1], fun h => hDF _ _ _ _ D h⟩
    rw [er]
    show (if zI (s : Int) = 0 then tq_let (FX7_finishHill I2 L2 30) fun r => some (r.1, r.2) else some (I2, L2)) = some (I2, L2)
    rw [if_neg ns]
  · refine ⟨I2, L2, d, er, et2, f1.tr p1, f2.tr p2, f3.tr g1.re, 1, by omega, b11, W.2.1, by rw [W.2.2, b12], fun h => by omega⟩
theorem t_read {a2 : Int32} (hs : s < 4) (n6 : n ≤ 600) (hB : ∀ i, i < n → B i < 256 ∧ X 2 i = (zI (B i : Nat)).toInt8.toInt32 ∧ Z 137 (10 + i) = zI (B i : Nat)) (z2 : Z 136 2 = zI (n : Int)) (z5 : Z 137 5 = 0) (z6 : Z 137 6 = -1) : RDD s X L Z M n a2 := by
  rcases (by omega : s = 0 ∨ s = 1 ∨ s = 2 ∨ s = 3) with rfl | rfl | rfl | rfl
  · obtain ⟨b, d, I1, L1, J1, er, et, P, f1, f2, f3⟩ := t_begin (L := L) (a2 := a2) n6 hB z2 z5 z6 (lst_0 M) (by omega) (fun I I2 L J x D F => by
      obtain ⟨r, l, d1, d2, d3, d4, d5⟩ := D
      refine ⟨r, l, d1, d2, d3, d4, fun hx => ?_⟩
      obtain ⟨w, h, tl, K, HH⟩ := d5 hx
      exact ⟨w, h, tl, K, HH.any (F 32 (by omega) (by omega))⟩) (fun J => rfl) (fun I1 L1 J1 _ bh bj j9 j10 => by
      obtain ⟨c1, c2, c3⟩ := bj.2 rfl
      refine ⟨-1, -1, j9.trans rfl, j10.trans rfl, by omega, by omega, fun _ => ⟨6, 4, fun _ => false, fun _ => 0, by unfold wh; omega, bh.1, bh.2.2, bh.2.1, fun _ _ => rfl, (fun p hp => by cases hp), c1.trans rfl, c2.trans rfl, fun p hp => ?_, (fun p hp => by cases hp), Or.inl rfl, Or.inl rfl⟩⟩
      rw [c3 (2 + p) (by omega) (by omega)]
      rfl)
    obtain ⟨g1, g2⟩ := P
    rcases g2 with ⟨I2, L2, p, q, x, rfl, C, R, k0, D, p1, p2⟩ | ⟨I2, L2, q, rfl, b11, b12, W, p1, p2⟩
    · obtain ⟨I3, L3, J3, e3, q1, q2, q3, q4, ⟨f, f5, h1, h2, h3⟩, h4⟩ := t_finish (M := M) C R k0 D
      refine ⟨I3, L3, J3, ?_, ?_, (f1.tr p1).tr q1, (f2.tr p2).tr q2, (f3.tr g1.re).tr q4, f, f5, h1, h2, h4, fun hf => ⟨fun _ => h3 hf, fun h => by omega, fun h => by omega, fun h => by omega⟩⟩
      · rw [er]
        show (if zI ((0 : Nat) : Int) = 0 then tq_let (FX7_finishHill I2 L2 30) fun r => some (r.1, r.2) else some (I2, L2)) = some (I3, L3)
        rw [if_pos (show zI ((0 : Nat) : Int) = 0 from rfl), zlet, e3]
      · rw [et, if_pos i5, if_pos (show zI ((0 : Nat) : Int) = 0 from rfl)]
        exact q3 (fun t => FX12_text_j199 t M 136 (zI ((0 : Nat) : Int)) a2)
    · refine ⟨I2, L2, d, er, ?_, f1.tr p1, f2.tr p2, f3.tr g1.re, 1, by omega, b11, W.2.1, by rw [W.2.2, b12], fun h => by omega⟩
      rw [et, if_pos i5, if_neg (by rw [W.2.1]; decide)]
  · obtain ⟨b, d, I1, L1, J1, er, et, P, f1, f2, f3⟩ := t_begin (L := L) (a2 := a2) n6 hB z2 z5 z6 (lst_1 M) (by omega) (fun I I2 L J x D F => by
      obtain ⟨m, d1, d2, d3⟩ := D
      refine ⟨m, d1, d2, fun hx => ?_⟩
      obtain ⟨yk, yf, ys, t1, t2, t3, t4⟩ := d3 hx
      refine ⟨yk, yf, ys, t1, by rw [F 33 (by omega) (by omega)]; exact t2, t3, fun k hk => ?_⟩
      rw [F (33 + 1) (by omega) (by omega), F (33 + 2) (by omega) (by omega), F (33 + 3) (by omega) (by omega)]
      exact t4 k hk) (fun J => rfl) (fun I1 L1 J1 bm _ bj _ _ => ⟨0, by omega, by rw [bj.1 (by omega)]; rfl, fun _ => ⟨fun _ => 0, fun _ => 0, fun _ => 0, by omega, bm.1, bj.1 (by omega), fun k hk => by omega⟩⟩)
    refine t_tail (by omega) (by omega) er et P f1 f2 f3 (fun I L J x D hx => ?_)
    obtain ⟨m, d1, d2, d3⟩ := D
    obtain ⟨yk, yf, ys, T⟩ := d3 hx
    exact ⟨fun h => by omega, fun _ => ⟨m, yk, yf, ys, T⟩, fun h => by omega, fun h => by omega⟩
  · obtain ⟨b, d, I1, L1, J1, er, et, P, f1, f2, f3⟩ := t_begin (L := L) (a2 := a2) n6 hB z2 z5 z6 (lst_2 M) (by omega) (fun I I2 L J x D F => by
      obtain ⟨m, d1, d2, d3⟩ := D
      refine ⟨m, d1, d2, fun hx => ?_⟩
      obtain ⟨lc, lh, t1, t2, t3, t4⟩ := d3 hx
      refine ⟨lc, lh, t1, by rw [F 37 (by omega) (by omega)]; exact t2, t3, fun k hk => ?_⟩
      rw [F (37 + 1) (by omega) (by omega), F (37 + 2) (by omega) (by omega)]
      exact t4 k hk) (fun J => rfl) (fun I1 L1 J1 bm _ bj _ _ => ⟨0, by omega, by rw [bj.1 (by omega)]; rfl, fun _ => ⟨fun _ => 0, fun _ => 0, by omega, bm.2.1, bj.1 (by omega), fun k hk => by omega⟩⟩)
    refine t_tail (by omega) (by omega) er et P f1 f2 f3 (fun I L J x D hx => ?_)
    obtain ⟨m, d1, d2, d3⟩ := D
    obtain ⟨lc, lh, T⟩ := d3 hx
    exact ⟨fun h => by omega, fun h => by omega, fun _ => ⟨m, lc, lh, T⟩, fun h => by omega⟩
  · obtain ⟨b, d, I1, L1, J1, er, et, P, f1, f2, f3⟩ := t_begin (L := L) (a2 := a2) n6 hB z2 z5 z6 (lst_3 M) (by omega) (fun I I2 L J x D F => by
      obtain ⟨m, d1, d2, d3⟩ := D
      refine ⟨m, d1, d2, fun hx => ?_⟩
      obtain ⟨tw, T⟩ := d3 hx
      obtain ⟨t1, t2, t3, t4⟩ := T
      refine ⟨tw, t1, by rw [F 40 (by omega) (by omega)]; exact t2, t3, fun k hk => ?_⟩
      rw [F (40 + 1) (by omega) (by omega)]
      exact t4 k hk) (fun J => rfl) (fun I1 L1 J1 bm _ bj _ _ => ⟨0, by omega, by rw [bj.1 (by omega)]; rfl, fun _ => ⟨fun _ => 0, by omega, bm.2.2, bj.1 (by omega), fun k hk => by omega⟩⟩)
    refine t_tail (by omega) (by omega) er et P f1 f2 f3 (fun I L J x D hx => ?_)
    obtain ⟨m, d1, d2, d3⟩ := D
    obtain ⟨tw, T⟩ := d3 hx
    exact ⟨fun h => by omega, fun h => by omega, fun h => by omega, fun _ => ⟨m, tw, T⟩⟩
end TR2
