/-! TEXT: lines of logs and years by the reference. -/
theorem ob_id (o : Option tq_PI) : (o.bind fun q => some q) = o := by cases o <;> rfl
section RY
variable {I J : tq_PI} {M : tq_PL} {B : Nat → Nat} {n p s w : Nat} {x : Nat × Int}
noncomputable def lput (S : tq_PI) (m : Nat) (c v : Int32) : tq_PI := if m < 8 then tq_up2 (tq_up2 (tq_up2 S 139 (1 + 2 * m) c) 139 (2 + 2 * m) v) 139 0 (zI ((m + 1 : Nat) : Int)) else S
theorem lput_fd (S : tq_PI) (m : Nat) (c v : Int32) : FDt S (lput S m c v) := by
  unfold lput
  split
  · exact (FDt.up.tr FDt.up).tr FDt.up
  · exact FDt.rf
theorem r_log38 {S1 S2 S : tq_PI} {a b v : Int32} {m : Nat} (e1 : FX12_numbered J M 136 (0 : Int32) (7 : Int32) = some (a, S1)) (e2 : FX12_numbered S1 M 136 (0 : Int32) (5 : Int32) = some (b, S2)) (e3 : FX12_numbered S2 M 136 (0 : Int32) (9 : Int32) = some (v, S)) (h : S 139 0 = zI (m : Int)) (m8 : m ≤ 8) : FX12_logLine_j38 J M 136 = FX12_endsLine (lput S m ((8 : Int32) * b + a) v) M 136 := by
  unfold FX12_logLine_j38 FX12_logLine_j121 lput
  rw [e1, obind]
  dsimp only
  rw [e2, obind]
  dsimp only
  rw [e3, obind, if_pos i0_121, if_pos i0_121, if_pos i0_121, if_pos i0_121, if_pos i0_121, g11, e0n]
  by_cases g : m < 8
  · have m1 : (1 : Int32) + (2 : Int32) * zI (m : Int) = zI ((1 + 2 * m : Nat) : Int) := by rw [show (1 : Int32) = zI 1 from rfl, show (2 : Int32) = zI 2 from rfl, zI_mul, zI_add]; congr 1
    have m2 : (2 : Int32) + (2 : Int32) * zI (m : Int) = zI ((2 + 2 * m : Nat) : Int) := by rw [show (2 : Int32) = zI 2 from rfl, zI_mul, zI_add]; congr 1
    have n1 : (zI ((1 + 2 * m : Nat) : Int)).toNatClampNeg = 1 + 2 * m := by rw [zI_cl (by omega), Int.toNat_natCast]
    have n2 : (zI ((2 + 2 * m : Nat) : Int)).toNatClampNeg = 2 + 2 * m := by rw [zI_cl (by omega), Int.toNat_natCast]
    have x1 : (0 : Int32) ≤ zI ((1 + 2 * m : Nat) : Int) ∧ zI ((1 + 2 * m : Nat) : Int) < 121 := ⟨by rw [show (0 : Int32) = zI 0 from rfl, zI_le (by omega) (by omega)]; omega, by rw [zI_lit, zI_lt (by omega) (by omega)]; omega⟩
    have x2 : (0 : Int32) ≤ zI ((2 + 2 * m : Nat) : Int) ∧ zI ((2 + 2 * m : Nat) : Int) < 121 := ⟨by rw [show (0 : Int32) = zI 0 from rfl, zI_le (by omega) (by omega)]; omega, by rw [zI_lit, zI_lt (by omega) (by omega)]; omega⟩
    rw [if_neg (by show ¬ (8 : Int32) ≤ S 139 0; rw [h, zI_lit, zI_le (by omega) (by omega)]; omega), if_pos (by show (0 : Int32) ≤ 1 + 2 * S 139 0 ∧ 1 + 2 * S 139 0 < 121; rw [h, m1]; exact x1), if_pos (by
      show (0 : Int32) ≤ 2 + 2 * (tq_up2 S 139 ((1 : Int32) + 2 * S 139 0).toNatClampNeg ((8 : Int32) * b + a)) 139 0 ∧ 2 + 2 * (tq_up2 S 139 ((1 : Int32) + 2 * S 139 0).toNatClampNeg ((8 : Int32) * b + a)) 139 0 < 121
      rw [h, m1, n1, up_n _ _ (by omega), h, m2]; exact x2), ob_id, if_pos g]
    dsimp only
    rw [h, m1, n1, up_n _ _ (by omega), h, m2, n2, up_n _ _ (by omega), up_n _ _ (by omega), h, z_suc]
  · rw [if_pos (by show (8 : Int32) ≤ S 139 0; rw [h, zI_lit, zI_le (by omega) (by omega)]; omega), ob_id, if_neg g]
theorem r_logLine {m : Nat} (R : RRd J B n p x) (h : J 139 0 = zI (m : Int)) (m8 : m ≤ 8) : (¬ (tK B n p = 1 ∧ tW B n p = 10) → ∃ K, FX12_logLine J M 136 = some K ∧ WWr K (tS B n p) ∧ FRD J K) ∧ (tK B n p = 1 ∧ tW B n p = 10 → (okl B n (tE B n p) 3 ∧ ∃ K, FX12_logLine J M 136 = some K ∧ RRd K B n (tE B n (pp B n (tE B n p) 3)) (nf B n (tE B n p) 2 0 (blm x (decide (m < 8)) 3 (tS B n p)) 3) ∧ FRD J K ∧ K 139 = (lput J m ((8 : Int32) * zI (nva B n (tE B n p) 2 0 1 : Nat) + zI (nva B n (tE B n p) 2 0 0 : Nat)) (zI (nva B n (tE B n p) 2 0 2 : Nat))) 139) ∨ ∃ K q, FX12_logLine J M 136 = some K ∧ erl B n (tE B n p) 3 q ∧ WWr K q ∧ FRD J K) := by
  obtain ⟨wa, wb⟩ := r_word (M := M) R (a := 10) (b := 10) (by omega) (by omega)
  have t139 : ∀ (S : tq_PI) (c v : Int32), S 139 = J 139 → (lput S m c v) 139 = (lput J m c v) 139 := fun S c v hS => by
    unfold lput
    split
    · funext j
      unfold tq_up2
      rw [hS]
    · exact hS
  refine ⟨fun g => ?_, fun g => ?_⟩
  · obtain ⟨K, e, W, F⟩ := wb (by omega)
    have e' : FX12_wordIn J M 136 (10 : Int32) (10 : Int32) = some (0, K) := e
    have hK : K 139 0 = zI (m : Int) := by rw [F.r139]; exact h
    unfold FX12_logLine
    rw [e', obind, if_neg (by show ¬ K 136 8 = 0; rw [W.1]; decide), r_log38 (r_numd_w W 0 7) (r_numd_w W 0 5) (r_numd_w W 0 9) hK m8, r_endl_w (W.fd (lput_fd K m _ _))]
    exact ⟨_, rfl, W.fd (lput_fd K m _ _), F.rd.tr (lput_fd K m _ _).rd⟩
  · obtain ⟨K, e, R1, F⟩ := wa (by omega)
    have e' : FX12_wordIn J M 136 (10 : Int32) (10 : Int32) = some (zI (tW B n p : Nat), K) := e
    have hK : K 139 0 = zI (m : Int) := by rw [F.r139]; exact h
    have gt := tE_gt (B := B) (n := n) (p := p) (by omega)
    have sg := tS_ge (B := B) (n := n) (p := p)
    obtain ⟨K2, e2, R2, F2⟩ := r_full (M := M) (ok := decide (m < 8)) (d := tS B n p) R1 gt (fun h => by have := R.2.2.2.2.2.2.2 h; omega)
    have hK2 : K2 139 0 = zI (m : Int) := by rw [F2.r139]; exact hK
    have step : FX12_logLine J M 136 = FX12_logLine_j38 K2 M 136 := by
      unfold FX12_logLine
      rw [e', obind, if_pos R1.2.2.2.1, if_pos i0_121, g11, e0n, R.2.2.1.2.1]
      by_cases q : m < 8
      · rw [decide_eq_true q, if_pos rfl] at e2
        rw [if_pos (by show K 139 0 < (8 : Int32); rw [hK, zI_lit, zI_lt (by omega) (by omega)]; omega), Option.some.inj e2]
      · rw [decide_eq_false q, if_neg (by simp)] at e2
        rw [if_neg (by show ¬ K 139 0 < (8 : Int32); rw [hK, zI_lit, zI_lt (by omega) (by omega)]; omega), e2, obind]
    rw [step]
    have FA := F.rd.tr F2.rd
    rcases r_numI (M := M) (J := K2) (B := B) (n := n) (p := tE B n p) (s := 2) (w := 0) (x := blm x (decide (m < 8)) 3 (tS B n p)) (i := 0) R2 with ⟨k0, K3, e3, R3, F3⟩ | ⟨k0, K3, e3, W3, F3⟩
    · have e3' : FX12_numbered K2 M 136 (0 : Int32) (7 : Int32) = some (zI (nva B n (tE B n p) 2 0 0 : Nat), K3) := e3
      rcases r_numI (M := M) (i := 1) R3 with ⟨k1, K4, e4, R4, F4⟩ | ⟨k1, K4, e4, W4, F4⟩
      · have e4' : FX12_numbered K3 M 136 (0 : Int32) (5 : Int32) = some (zI (nva B n (tE B n p) 2 0 1 : Nat), K4) := e4
        rcases r_numI (M := M) (i := 2) R4 with ⟨k2, K5, e5, R5, F5⟩ | ⟨k2, K5, e5, W5, F5⟩
        · have e5' : FX12_numbered K4 M 136 (0 : Int32) (9 : Int32) = some (zI (nva B n (tE B n p) 2 0 2 : Nat), K5) := e5
          have r5 : K5 139 = J 139 := by rw [F5.r139, F4.r139, F3.r139, F2.r139, F.r139]
          rw [r_log38 e3' e4' e5' (by rw [r5]; exact h) m8]
          have Fp := lput_fd K5 m ((8 : Int32) * zI (nva B n (tE B n p) 2 0 1 : Nat) + zI (nva B n (tE B n p) 2 0 0 : Nat)) (zI (nva B n (tE B n p) 2 0 2 : Nat))
          have FF := (((FA.tr F3.rd).tr F4.rd).tr F5.rd).tr Fp.rd
          rcases r_fin (M := M) (p := tE B n p) (m := 3) (fun j hj => by
            rcases (by omega : j = 0 ∨ j = 1 ∨ j = 2) with rfl | rfl | rfl
            · exact k0
            · exact k1
            · exact k2) (R5.fd Fp) with ⟨ok, K6, e6, R6, F6⟩ | ⟨K6, q, e6, er, W6, F6⟩
          · refine Or.inl ⟨ok, K6, e6, R6, FF.tr F6.rd, ?_⟩
            rw [F6.r139, t139 K5 _ _ r5]
          · exact Or.inr ⟨K6, q, e6, er, W6, FF.tr F6.rd⟩
        · have e5' : FX12_numbered K4 M 136 (0 : Int32) (9 : Int32) = some (zI (nlo 2 0 : Nat), K5) := e5
          have r5 : K5 139 = J 139 := by rw [F5.r139, F4.r139, F3.r139, F2.r139, F.r139]
          rw [r_log38 e3' e4' e5' (by rw [r5]; exact h) m8, r_endl_w (W5.fd (lput_fd K5 m _ _))]
          exact Or.inr ⟨_, _, rfl, erl_at (by omega) (fun j hj => by
            rcases (by omega : j = 0 ∨ j = 1) with rfl | rfl
            · exact k0
            · exact k1) k2, W5.fd (lput_fd K5 m _ _), (((FA.tr F3.rd).tr F4.rd).tr F5.rd).tr (lput_fd K5 m _ _).rd⟩
      · have e4' : FX12_numbered K3 M 136 (0 : Int32) (5 : Int32) = some (zI (nlo 2 0 : Nat), K4) := e4
        have r4 : K4 139 = J 139 := by rw [F4.r139, F3.r139, F2.r139, F.r139]
        rw [r_log38 e3' e4' (r_numd_w W4 0 9) (by rw [r4]; exact h) m8, r_endl_w (W4.fd (lput_fd K4 m _ _))]
        exact Or.inr ⟨_, _, rfl, erl_at (by omega) (fun j hj => by
          rcases (by omega : j = 0) with rfl
          exact k0) k1, W4.fd (lput_fd K4 m _ _), ((FA.tr F3.rd).tr F4.rd).tr (lput_fd K4 m _ _).rd⟩
    · have e3' : FX12_numbered K2 M 136 (0 : Int32) (7 : Int32) = some (zI (nlo 2 0 : Nat), K3) := e3
      have r3 : K3 139 = J 139 := by rw [F3.r139, F2.r139, F.r139]
      rw [r_log38 e3' (r_numd_w W3 0 5) (r_numd_w W3 0 9) (by rw [r3]; exact h) m8, r_endl_w (W3.fd (lput_fd K3 m _ _))]
      exact Or.inr ⟨_, _, rfl, erl_at (by omega) (fun j hj => by omega) k0, W3.fd (lput_fd K3 m _ _), (FA.tr F3.rd).tr (lput_fd K3 m _ _).rd⟩
/-! years -/
noncomputable def yput (S : tq_PI) (m : Nat) (a b c : Int32) : tq_PI := if m < 40 then tq_up2 (tq_up2 (tq_up2 (tq_up2 S 139 (1 + 3 * m) a) 139 (2 + 3 * m) b) 139 (3 + 3 * m) c) 139 0 (zI ((m + 1 : Nat) : Int)) else S
theorem yput_fd (S : tq_PI) (m : Nat) (a b c : Int32) : FDt S (yput S m a b c) := by
  unfold yput
  split
  · exact ((FDt.up.tr FDt.up).tr FDt.up).tr FDt.up
  · exact FDt.rf
theorem r_year96 {S : tq_PI} {m : Nat} (a b c : Int32) (h : S 139 0 = zI (m : Int)) (m40 : m ≤ 40) : FX12_yearLine_j96 S M 136 a b c = FX12_endsLine (yput S m a b c) M 136 := by
  unfold FX12_yearLine_j96 FX12_yearLine_j161 yput
  rw [if_pos i0_121, if_pos i0_121, if_pos i0_121, if_pos i0_121, g11, e0n]
  by_cases g : m < 40
  · have m1 : (1 : Int32) + (3 : Int32) * zI (m : Int) = zI ((1 + 3 * m : Nat) : Int) := by rw [show (1 : Int32) = zI 1 from rfl, show (3 : Int32) = zI 3 from rfl, zI_mul, zI_add]; congr 1
    have m2 : zI ((1 + 3 * m : Nat) : Int) + (1 : Int32) = zI ((2 + 3 * m : Nat) : Int) := by rw [show (1 : Int32) = zI 1 from rfl, zI_add]; congr 1; omega
    have m3 : zI ((1 + 3 * m : Nat) : Int) + (2 : Int32) = zI ((3 + 3 * m : Nat) : Int) := by rw [show (2 : Int32) = zI 2 from rfl, zI_add]; congr 1; omega
    have n1 : (zI ((1 + 3 * m : Nat) : Int)).toNatClampNeg = 1 + 3 * m := by rw [zI_cl (by omega), Int.toNat_natCast]
    have n2 : (zI ((2 + 3 * m : Nat) : Int)).toNatClampNeg = 2 + 3 * m := by rw [zI_cl (by omega), Int.toNat_natCast]
    have n3 : (zI ((3 + 3 * m : Nat) : Int)).toNatClampNeg = 3 + 3 * m := by rw [zI_cl (by omega), Int.toNat_natCast]
    have x1 : (0 : Int32) ≤ zI ((1 + 3 * m : Nat) : Int) ∧ zI ((1 + 3 * m : Nat) : Int) < 121 := ⟨by rw [show (0 : Int32) = zI 0 from rfl, zI_le (by omega) (by omega)]; omega, by rw [zI_lit, zI_lt (by omega) (by omega)]; omega⟩
    have x2 : (0 : Int32) ≤ zI ((2 + 3 * m : Nat) : Int) ∧ zI ((2 + 3 * m : Nat) : Int) < 121 := ⟨by rw [show (0 : Int32) = zI 0 from rfl, zI_le (by omega) (by omega)]; omega, by rw [zI_lit, zI_lt (by omega) (by omega)]; omega⟩
    have x3 : (0 : Int32) ≤ zI ((3 + 3 * m : Nat) : Int) ∧ zI ((3 + 3 * m : Nat) : Int) < 121 := ⟨by rw [show (0 : Int32) = zI 0 from rfl, zI_le (by omega) (by omega)]; omega, by rw [zI_lit, zI_lt (by omega) (by omega)]; omega⟩
    rw [h, m1, m2, m3, n1, n2, n3, if_neg (by rw [zI_lit, zI_le (by omega) (by omega)]; omega), if_pos x1, if_pos x2, if_pos x3, up_n _ _ (by omega), up_n _ _ (by omega), up_n _ _ (by omega), h, z_suc, ob_id, if_pos g]
  · rw [if_pos (by rw [h, zI_lit, zI_le (by omega) (by omega)]; omega), ob_id, if_neg g]
def wy (c : Nat) : Nat := if c = 7 then 0 else if c = 8 then 1 else if c = 6 then 2 else 3
theorem r_yearLine {m : Nat} (R : RRd J B n p x) (h : J 139 0 = zI (m : Int)) (m40 : m ≤ 40) : (¬ (tK B n p = 1 ∧ 6 ≤ tW B n p ∧ tW B n p ≤ 9) → ∃ K, FX12_yearLine J M 136 = some K ∧ WWr K (tS B n p) ∧ FRD J K) ∧ (tK B n p = 1 ∧ 6 ≤ tW B n p ∧ tW B n p ≤ 9 → ∀ w, w = wy (tW B n p) → (okl B n (tE B n p) (nmn 1 w) ∧ ∃ K, FX12_yearLine J M 136 = some K ∧ RRd K B n (tE B n (pp B n (tE B n p) (nmn 1 w))) (nf B n (tE B n p) 1 w (blm x (decide (m < 40)) 3 (tS B n p)) (nmn 1 w)) ∧ FRD J K ∧ K 139 = (yput J m (zI (w : Int)) (zI (nva B n (tE B n p) 1 w 0 : Nat)) (if w = 3 then -1 else zI (nva B n (tE B n p) 1 w 1 : Nat))) 139) ∨ ∃ K q, FX12_yearLine J M 136 = some K ∧ erl B n (tE B n p) (nmn 1 w) q ∧ WWr K q ∧ FRD J K) := by
  obtain ⟨wa, wb⟩ := r_word (M := M) R (a := 6) (b := 9) (by omega) (by omega)
  have t139 : ∀ (S : tq_PI) (a b c : Int32), S 139 = J 139 → (yput S m a b c) 139 = (yput J m a b c) 139 := fun S a b c hS => by
    unfold yput
    split
    · funext j
      unfold tq_up2
      rw [hS]
    · exact hS
  refine ⟨fun g => ?_, fun g w hw => ?_⟩
  · obtain ⟨K, e, W, F⟩ := wb g
    have e' : FX12_wordIn J M 136 (6 : Int32) (9 : Int32) = some (0, K) := e
    have hK : K 139 0 = zI (m : Int) := by rw [F.r139]; exact h
    have n8 : ¬ K 136 8 = 0 := by rw [W.1]; decide
    unfold FX12_yearLine FX12_yearLine_j37 FX12_yearLine_j62 FX12_yearLine_j76
    rw [e', obind, if_neg (show ¬ (0 : Int32) - 6 = 0 by decide), if_neg (show ¬ (0 : Int32) - 6 = 3 by decide), if_neg n8, if_neg (show ¬ (0 : Int32) - 6 - 1 = 3 by decide)]
    dsimp only
    rw [r_numd_w W 0 7, obind, if_neg (show ¬ (0 : Int32) - 6 - 1 = 3 by decide)]
    dsimp only
    rw [r_numd_w W 0 5, obind, r_year96 _ _ _ hK m40, r_endl_w (W.fd (yput_fd K m _ _ _))]
    exact ⟨_, rfl, W.fd (yput_fd K m _ _ _), F.rd.tr (yput_fd K m _ _ _).rd⟩
  · obtain ⟨K, e, R1, F⟩ := wa g
    have e' : FX12_wordIn J M 136 (6 : Int32) (9 : Int32) = some (zI (tW B n p : Nat), K) := e
    have hK : K 139 0 = zI (m : Int) := by rw [F.r139]; exact h
    have gt := tE_gt (B := B) (n := n) (p := p) (by omega)
    have sg := tS_ge (B := B) (n := n) (p := p)
    obtain ⟨K2, e2, R2, F2⟩ := r_full (M := M) (ok := decide (m < 40)) (d := tS B n p) R1 gt (fun h => by have := R.2.2.2.2.2.2.2 h; omega)
    have hK2 : K2 139 0 = zI (m : Int) := by rw [F2.r139]; exact hK
    have w4 : w ≤ 3 := by rw [hw]; unfold wy; repeat' (first | omega | split)
    have s1 : FX12_yearLine J M 136 = FX12_yearLine_j37 K M 136 (zI (tS B n p : Nat)) (zI (w : Int)) := by
      unfold FX12_yearLine
      rw [e', obind, R.2.2.1.2.1]
      rcases (by omega : tW B n p = 6 ∨ tW B n p = 7 ∨ tW B n p = 8 ∨ tW B n p = 9) with q | q | q | q
      · rw [if_pos (by show zI (tW B n p : Nat) - 6 = 0; rw [q]; decide), hw, q]
        rfl
      · rw [if_neg (by show ¬ zI (tW B n p : Nat) - 6 = 0; rw [q]; decide), if_neg (by show ¬ zI (tW B n p : Nat) - 6 = 3; rw [q]; decide)]
        dsimp only
        rw [hw, q]
        rfl
      · rw [if_neg (by show ¬ zI (tW B n p : Nat) - 6 = 0; rw [q]; decide), if_neg (by show ¬ zI (tW B n p : Nat) - 6 = 3; rw [q]; decide)]
        dsimp only
        rw [hw, q]
        rfl
      · rw [if_neg (by show ¬ zI (tW B n p : Nat) - 6 = 0; rw [q]; decide), if_pos (by show zI (tW B n p : Nat) - 6 = 3; rw [q]; decide), hw, q]
        rfl
    have s2 : FX12_yearLine_j37 K M 136 (zI (tS B n p : Nat)) (zI (w : Int)) = FX12_yearLine_j62 K2 M 136 (zI (w : Int)) := by
      unfold FX12_yearLine_j37
      rw [if_pos R1.2.2.2.1, if_pos i0_121, g11, e0n]
      by_cases q : m < 40
      · rw [decide_eq_true q, if_pos rfl] at e2
        rw [if_pos (by rw [hK, zI_lit, zI_lt (by omega) (by omega)]; omega), Option.some.inj e2]
      · rw [decide_eq_false q, if_neg (by simp)] at e2
        rw [if_neg (by rw [hK, zI_lit, zI_lt (by omega) (by omega)]; omega), e2, obind]
    rw [s1, s2]
    clear s1 s2
    have FA := F.rd.tr F2.rd
    have ew : (zI (w : Int) = (3 : Int32)) = (w = 3) := by rw [zI_lit, zI_eq (by omega) (by omega)]; apply propext; omega
    have l0 : nlo 1 w = 0 := by unfold nlo; rw [if_neg (by omega)]
    unfold FX12_yearLine_j62 FX12_yearLine_j76
    by_cases q3 : w = 3
    · subst q3
      have em : nmn 1 3 = 1 := rfl
      rw [em, if_pos (show zI ((3 : Nat) : Int) = 3 from rfl), if_pos (show (3 : Nat) = 3 from rfl)]
      rcases r_numI (M := M) (J := K2) (B := B) (n := n) (p := tE B n p) (s := 1) (w := 3) (x := blm x (decide (m < 40)) 3 (tS B n p)) (i := 0) R2 with ⟨k0, K3, e3, R3, F3⟩ | ⟨k0, K3, e3, W3, F3⟩
      · have e3' : FX12_numbered K2 M 136 (0 : Int32) (20 : Int32) = some (zI (nva B n (tE B n p) 1 3 0 : Nat), K3) := e3
        have r3 : K3 139 = J 139 := by rw [F3.r139, F2.r139, F.r139]
        rw [e3', obind, if_pos (show zI ((3 : Nat) : Int) = 3 from rfl), r_year96 _ _ _ (show K3 139 0 = zI (m : Int) by rw [r3]; exact h) m40]
        have Fp := yput_fd K3 m (zI ((3 : Nat) : Int)) (zI (nva B n (tE B n p) 1 3 0 : Nat)) (-1)
        have FF := (FA.tr F3.rd).tr Fp.rd
        rcases r_fin (M := M) (p := tE B n p) (m := 1) (fun j hj => by
          rcases (by omega : j = 0) with rfl
          exact k0) (R3.fd Fp) with ⟨ok, K6, e6, R6, F6⟩ | ⟨K6, q, e6, er, W6, F6⟩
        · refine Or.inl ⟨ok, K6, e6, R6, FF.tr F6.rd, ?_⟩
          rw [F6.r139, t139 K3 _ _ _ r3]
        · exact Or.inr ⟨K6, q, e6, er, W6, FF.tr F6.rd⟩
      · have e3' : FX12_numbered K2 M 136 (0 : Int32) (20 : Int32) = some (zI (nlo 1 3 : Nat), K3) := e3
        have r3 : K3 139 = J 139 := by rw [F3.r139, F2.r139, F.r139]
        rw [e3', obind, if_pos (show zI ((3 : Nat) : Int) = 3 from rfl), r_year96 _ _ _ (show K3 139 0 = zI (m : Int) by rw [r3]; exact h) m40, r_endl_w (W3.fd (yput_fd K3 m _ _ _))]
        exact Or.inr ⟨_, _, rfl, erl_at (by omega) (fun j hj => by omega) k0, W3.fd (yput_fd K3 m _ _ _), (FA.tr F3.rd).tr (yput_fd K3 m _ _ _).rd⟩
    · have em : nmn 1 w = 2 := by unfold nmn; rw [if_neg (by omega), if_neg (by omega), if_neg (by omega)]
      have h0 : nhi 1 w 0 = 7 := by unfold nhi; rw [if_neg (by omega), if_neg (by omega), if_neg (by omega), if_neg (by omega), if_pos rfl]
      have h1 : nhi 1 w 1 = 5 := by unfold nhi; rw [if_neg (by omega), if_neg (by omega), if_neg (by omega), if_neg (by omega), if_neg (by omega)]
      have nw : ¬ zI (w : Int) = (3 : Int32) := by rw [ew]; exact q3
      rw [em, if_neg nw, if_neg q3]
      rcases r_numI (M := M) (J := K2) (B := B) (n := n) (p := tE B n p) (s := 1) (w := w) (x := blm x (decide (m < 40)) 3 (tS B n p)) (i := 0) R2 with ⟨k0, K3, e3, R3, F3⟩ | ⟨k0, K3, e3, W3, F3⟩
      · rw [l0, h0] at e3
        have e3' : FX12_numbered K2 M 136 (0 : Int32) (7 : Int32) = some (zI (nva B n (tE B n p) 1 w 0 : Nat), K3) := e3
        rw [e3', obind, if_neg nw]
        dsimp only
        rcases r_numI (M := M) (i := 1) R3 with ⟨k1, K4, e4, R4, F4⟩ | ⟨k1, K4, e4, W4, F4⟩
        · rw [l0, h1] at e4
          have e4' : FX12_numbered K3 M 136 (0 : Int32) (5 : Int32) = some (zI (nva B n (tE B n p) 1 w 1 : Nat), K4) := e4
          have r4 : K4 139 = J 139 := by rw [F4.r139, F3.r139, F2.r139, F.r139]
          rw [e4', obind, r_year96 _ _ _ (show K4 139 0 = zI (m : Int) by rw [r4]; exact h) m40]
          have Fp := yput_fd K4 m (zI (w : Int)) (zI (nva B n (tE B n p) 1 w 0 : Nat)) (zI (nva B n (tE B n p) 1 w 1 : Nat))
          have FF := ((FA.tr F3.rd).tr F4.rd).tr Fp.rd
          rcases r_fin (M := M) (p := tE B n p) (m := 2) (fun j hj => by
            rcases (by omega : j = 0 ∨ j = 1) with rfl | rfl
            · exact k0
            · exact k1) (R4.fd Fp) with ⟨ok, K6, e6, R6, F6⟩ | ⟨K6, q, e6, er, W6, F6⟩
          · refine Or.inl ⟨ok, K6, e6, R6, FF.tr F6.rd, ?_⟩
            rw [F6.r139, t139 K4 _ _ _ r4]
          · exact Or.inr ⟨K6, q, e6, er, W6, FF.tr F6.rd⟩
        · rw [l0, h1] at e4
          have e4' : FX12_numbered K3 M 136 (0 : Int32) (5 : Int32) = some (zI ((0 : Nat) : Int), K4) := e4
          have r4 : K4 139 = J 139 := by rw [F4.r139, F3.r139, F2.r139, F.r139]
          rw [e4', obind, r_year96 _ _ _ (show K4 139 0 = zI (m : Int) by rw [r4]; exact h) m40, r_endl_w (W4.fd (yput_fd K4 m _ _ _))]
          exact Or.inr ⟨_, _, rfl, erl_at (by omega) (fun j hj => by
            rcases (by omega : j = 0) with rfl
            exact k0) k1, W4.fd (yput_fd K4 m _ _ _), ((FA.tr F3.rd).tr F4.rd).tr (yput_fd K4 m _ _ _).rd⟩
      · rw [l0, h0] at e3
        have e3' : FX12_numbered K2 M 136 (0 : Int32) (7 : Int32) = some (zI ((0 : Nat) : Int), K3) := e3
        have r3 : K3 139 = J 139 := by rw [F3.r139, F2.r139, F.r139]
        rw [e3', obind, if_neg nw]
        dsimp only
        rw [r_numd_w W3 0 5, obind, r_year96 _ _ _ (show K3 139 0 = zI (m : Int) by rw [r3]; exact h) m40, r_endl_w (W3.fd (yput_fd K3 m _ _ _))]
        exact Or.inr ⟨_, _, rfl, erl_at (by omega) (fun j hj => by omega) k0, W3.fd (yput_fd K3 m _ _ _), (FA.tr F3.rd).tr (yput_fd K3 m _ _ _).rd⟩
end RY
