/-! QUAKE: the class. -/
def ks (h : Nat) (K : Nat → Nat) (s p : Nat) : Nat := if p / 8 + 1 = h ∧ s.testBit (p % 8) = true then 0 else K p
def ls (h : Nat) (K : Nat → Nat) (s : Nat) : Nat := fb_ct (sol (ks h K s)) 64 - fb_ct (stl h (sol (ks h K s))) 64
def Gq (h : Nat) (K : Nat → Nat) (q W n s : Nat) : Nat := wq q W s n * ls h K s
theorem ls_le (h : Nat) (K : Nat → Nat) (s : Nat) : ls h K s ≤ 64 := by
  have := fb_ct_le (sol (ks h K s)) 64
  unfold ls
  omega
theorem Gq_le {h : Nat} {K : Nat → Nat} {q W n : Nat} (hq : q ≤ 10) (hn : n ≤ 8) (s : Nat) : Gq h K q W n s ≤ 6400000000 := by
  have h1 : wq q W s n ≤ 10 ^ 8 := Nat.le_trans (wq_le hq n) (Nat.pow_le_pow_right (by omega) hn)
  have h2 := Nat.mul_le_mul h1 (ls_le h K s)
  exact Nat.le_trans h2 (by decide)
theorem ks_z {w h : Nat} {K : Nat → Nat} (z : ∀ p, ar w h p = false → K p = 0) (s : Nat) : ∀ p, ar w h p = false → ks h K s p = 0 := fun p hp => by
  unfold ks
  split
  · rfl
  · exact z p hp
/-- the columns of the lowest row that are stones -/
def CWq (w h : Nat) (K : Nat → Nat) (W : Nat) : Prop := W < 2 ^ w ∧ ∀ c, c < w → W.testBit c = sto K (8 * (h - 1) + c)
theorem tb_big {s n c : Nat} (h : s < 2 ^ n) (q : n ≤ c) : s.testBit c = false := Nat.testBit_lt_two_pow (Nat.lt_of_lt_of_le h (Nat.pow_le_pow_right (by omega) q))
theorem un_bb (x : Int64) (p : Nat) : bb x p = (un x).testBit p := rfl
theorem tb_up (s k p : Nat) : (s * 2 ^ k).testBit p = (decide (k ≤ p) && s.testBit (p - k)) := by
  have e : s * 2 ^ k = 2 ^ k * s + 0 := by rw [Nat.mul_comm]; rfl
  rw [e, Nat.testBit_two_pow_mul_add _ (Nat.two_pow_pos k)]
  by_cases q : p < k
  · rw [if_pos q]
    have : ¬ k ≤ p := by omega
    simp [this]
  · rw [if_neg q]
    have : k ≤ p := by omega
    simp [this]
section QC
variable {I : tq_PI} {L : tq_PL} {a w h : Nat} {K : Nat → Nat}
theorem c_shaken (H : HC I L a w h K) : ∃ W, CWq w h K W ∧ un (FX3_stones I L a &&& L a 5) = W * 2 ^ (8 * (h - 1)) := by
  have k := H.k
  obtain ⟨k1, k2, k3, k4⟩ := k
  have hb : ∀ p, (un (FX3_stones I L a &&& L a 5)).testBit p = (sto K p && (ar w h p && decide (p / 8 + 1 = h))) := fun p => by
    rw [← un_bb, bb_and, c_sto H, H.bot]
  refine ⟨un (FX3_stones I L a &&& L a 5) / 2 ^ (8 * (h - 1)), ⟨?_, fun c hc => ?_⟩, ?_⟩
  · apply Nat.lt_pow_two_of_testBit
    intro c hc
    rw [Nat.testBit_div_two_pow, hb]
    have e1 : ar w h (c + 8 * (h - 1)) = false ∨ ¬ (c + 8 * (h - 1)) / 8 + 1 = h := by
      by_cases q : c < 8
      · left
        rw [← Bool.not_eq_true, ar_iff]
        omega
      · right
        omega
    rcases e1 with e1 | e1
    · rw [e1]; simp
    · simp [e1]
  · rw [Nat.testBit_div_two_pow, hb]
    have e1 : ar w h (8 * (h - 1) + c) = true := by rw [ar_iff]; omega
    have e2 : c + 8 * (h - 1) = 8 * (h - 1) + c := by omega
    rw [e2, e1]
    have e3 : (8 * (h - 1) + c) / 8 + 1 = h := by omega
    simp [e3]
  · apply Nat.eq_of_testBit_eq
    intro p
    rw [tb_up, Nat.testBit_div_two_pow]
    by_cases q : 8 * (h - 1) ≤ p
    · rw [show p - 8 * (h - 1) + 8 * (h - 1) = p by omega]
      simp [q]
    · rw [hb]
      have : ¬ p / 8 + 1 = h := by omega
      simp [q, this]
theorem un_dn {x y : Int64} {s W k : Nat} (hx : un x = s * 2 ^ k) (hy : un y = W * 2 ^ k) (hs : 1 ≤ s) : un ((x - 1) &&& y) = ((s - 1) &&& W) * 2 ^ k := by
  have hp : 0 < 2 ^ k := Nat.two_pow_pos k
  have h1 : un (1 : Int64) = 1 := rfl
  have l : 1 * 2 ^ k ≤ s * 2 ^ k := Nat.mul_le_mul_right _ hs
  have e1 : un (x - 1) = 2 ^ k * (s - 1) + (2 ^ k - 1) := by
    rw [un_sub (by rw [h1, hx]; omega), h1, hx]
    have e : s * 2 ^ k = 2 ^ k * (s - 1) + 2 ^ k := by
      obtain ⟨t, rfl⟩ : ∃ t, s = t + 1 := ⟨s - 1, by omega⟩
      rw [Nat.add_sub_cancel, Nat.succ_mul, Nat.mul_comm]
    omega
  rw [un_and, e1, hy]
  apply Nat.eq_of_testBit_eq
  intro p
  rw [Nat.testBit_and, tb_up, tb_up, Nat.testBit_and, Nat.testBit_two_pow_mul_add _ (by omega)]
  by_cases q : p < k
  · have : ¬ k ≤ p := by omega
    simp [this]
  · have : k ≤ p := by omega
    rw [if_neg q]
    simp [this]
theorem ct_shift {x : Int64} {s n k : Nat} (hx : un x = s * 2 ^ k) (hs : s < 2 ^ n) (hn : k + n ≤ 64) : fb_ct (bb x) 64 = fb_ct s.testBit n := by
  have e : bb x = fun p => decide (k ≤ p) && s.testBit (p - k) := funext fun p => by rw [un_bb, hx, tb_up]
  rw [show 64 = k + (n + (64 - k - n)) by omega, fb_ct_split, fb_ct_split]
  have z1 : fb_ct (bb x) k = 0 := fb_ct_zero.2 fun j hj => by
    rw [e]
    have : ¬ k ≤ j := by omega
    simp [this]
  have z2 : fb_ct (fun j => bb x (k + (n + j))) (64 - k - n) = 0 := fb_ct_zero.2 fun j hj => by
    rw [e]
    dsimp only
    rw [show k + (n + j) - k = n + j by omega, tb_big hs (by omega)]
    simp
  have z3 : fb_ct (fun j => bb x (k + j)) n = fb_ct s.testBit n := fb_ct_cong fun j hj => by
    rw [e]
    dsimp only
    rw [show k + j - k = j by omega]
    simp
  rw [z1, z2, z3]
  omega
theorem c_qstep (H : HC I L a w h K) {x : Int64} {s W q : Nat} (C : CWq w h K W) (hx : un x = s * 2 ^ (8 * (h - 1))) (hs : s &&& W = s) (hq : q ≤ 10) : ∃ y, FJ13_bitCount_95d88 I L x = zI (fb_ct s.testBit w : Nat) ∧ FX3_settled I L a (FX3_solid I L a &&& (x ^^^ (-1 : Int64))) = some y ∧ FJ13_bitCount_95d88 I L ((FX3_solid I L a &&& (x ^^^ (-1 : Int64))) &&& (y ^^^ (-1 : Int64))) = zI (ls h K s : Nat) := by
  obtain ⟨k1, k2, k3, k4⟩ := H.k
  have sW : s < 2 ^ w := Nat.lt_of_le_of_lt (by rw [← hs]; exact Nat.and_le_right) C.1
  have hb : bb (FX3_solid I L a &&& (x ^^^ (-1 : Int64))) = sol (ks h K s) := funext fun p => by
    rw [bb_minus, c_sol H, un_bb, hx, tb_up]
    unfold sol ks
    by_cases z : K p = 0
    · simp [z]
    · have ap : ar w h p = true := by
        cases e : ar w h p
        · exact absurd (H.z p e) z
        · rfl
      rw [ar_iff] at ap
      by_cases g : p / 8 + 1 = h
      · rw [show p - 8 * (h - 1) = p % 8 by omega]
        have g2 : 8 * (h - 1) ≤ p := by omega
        cases e : s.testBit (p % 8)
        · simp [g, g2, z]
        · simp [g, g2]
      · have g2 : ¬ 8 * (h - 1) ≤ p := by omega
        simp [g, g2, z]
  obtain ⟨y, e, hy, eb⟩ := c_fall H hb (ks_z H.z s)
  refine ⟨y, ?_, e, eb⟩
  rw [bc_eq, ct_shift hx sW (by omega)]
theorem c_losses (H : HC I L a w h K) {W q : Nat} (C : CWq w h K W) (hW : un (FX3_stones I L a &&& L a 5) = W * 2 ^ (8 * (h - 1))) (hq : q ≤ 10) : FX3_quakeLosses I L a (zI (q : Int)) = some (zL ((sm (Gq h K q W w) (W + 1) : Nat) : Int)) := by
  obtain ⟨k1, k2, k3, k4⟩ := H.k
  have W8 : W < 256 := Nat.lt_of_lt_of_le C.1 (Nat.pow_le_pow_right (by omega) k2 : 2 ^ w ≤ 2 ^ 8)
  have bW : FJ13_bitCount_95d88 I L (FX3_stones I L a &&& L a 5) = zI (fb_ct W.testBit w : Nat) := by rw [bc_eq, ct_shift hW C.1 (by omega)]
  have mW := fb_ct_le W.testBit w
  obtain ⟨x0, hx0⟩ : ∃ x0, x0 = FX3_stones I L a &&& L a 5 := ⟨_, rfl⟩
  obtain ⟨o, e, ho⟩ := it_m (f := fun p : Int64 × Int64 × Int32 => FX3_quakeLosses_s25 I L a (zI (q : Int)) x0 (zI (fb_ct W.testBit w : Nat)) p.1 p.2.1 p.2.2) (Inv := fun m st => ∃ (s r acc : Nat) (x : Int64), st = (zL (acc : Int), x, zI (r : Int)) ∧ m = s ∧ un x = s * 2 ^ (8 * (h - 1)) ∧ s &&& W = s ∧ r + s ≤ 255 ∧ acc + sm (Gq h K q W w) (s + 1) = sm (Gq h K q W w) (W + 1)) (Post := fun o => o = zL ((sm (Gq h K q W w) (W + 1) : Nat) : Int)) (fun m st hst => by
    obtain ⟨s, r, acc, x, rfl, rfl, hx, hs, hr, ha⟩ := hst
    dsimp only
    obtain ⟨y, e1, e2, e3⟩ := c_qstep (q := q) H C hx hs hq
    have sub := and_iff.1 hs
    have cl := ct_sub sub w
    have lsl := ls_le h K m
    have c1 := c_power I L (a := q) (k := fb_ct m.testBit w) (by omega)
    have c2 := c_power I L (a := 10 - q) (k := fb_ct W.testBit w - fb_ct m.testBit w) (by omega)
    have c2' : FX11_power I L (zL ((10 : Int) - q)) (zI ((fb_ct W.testBit w : Nat) - (fb_ct m.testBit w : Nat) : Int)) = some (zL (((10 - q) ^ (fb_ct W.testBit w - fb_ct m.testBit w) : Nat) : Int)) := by
      rw [← c2]
      congr 2
      · congr 1; omega
      · congr 1; omega
    have eg : zL ((q ^ fb_ct m.testBit w : Nat) : Int) * zL (((10 - q) ^ (fb_ct W.testBit w - fb_ct m.testBit w) : Nat) : Int) * zL (ls h K m : Nat) = zL (Gq h K q W w m : Nat) := by
      rw [zL_mul, zL_mul]
      unfold Gq
      rw [wq_in sub, Int.natCast_mul, Int.natCast_mul]
    unfold FX3_quakeLosses_s25
    rw [if_neg (by rw [zI_lit, zI_le (by omega) (by omega)]; omega), zlet, e1, zlet, zI_L (by omega), c1, obind, show (10 : Int32) = zI 10 from rfl, zI_sub, zI_L (by omega), zI_sub, c2', obind, e2, obind, zlet, e3, zI_L (by omega), eg, zL_add]
    have gs : sm (Gq h K q W w) (m + 1) = sm (Gq h K q W w) m + Gq h K q W w m := rfl
    have z0 : x = 0 ↔ m = 0 := by
      constructor
      · intro g
        rw [g, show un (0 : Int64) = 0 from rfl] at hx
        rcases Nat.mul_eq_zero.1 hx.symm with g2 | g2
        · exact g2
        · exact absurd g2 (Nat.ne_of_gt (Nat.two_pow_pos _))
      · intro g
        rw [g, Nat.zero_mul] at hx
        exact bb_eq0.2 fun p _ => by rw [un_bb, hx, Nat.zero_testBit]
    by_cases g : m = 0
    · rw [if_pos (by rw [lgc, z0]; exact g)]
      refine Or.inr ⟨_, rfl, ?_⟩
      congr 1
      subst g
      rw [gs] at ha
      have : sm (Gq h K q W w) 0 = 0 := rfl
      omega
    · rw [if_neg (by rw [lgc, z0]; exact g)]
      have dn := un_dn (y := x0) (W := W) hx (by rw [hx0]; exact hW) (by omega)
      have hle : (m - 1) &&& W ≤ m - 1 := Nat.and_le_left
      refine Or.inl ⟨_, (m - 1) &&& W, rfl, by omega, (m - 1) &&& W, r + 1, acc + Gq h K q W w m, _, ?_, rfl, dn, ?_, by omega, ?_⟩
      · rw [zI_lit, zI_add, Int.natCast_add, Int.natCast_add, Int.natCast_one]
      · rw [Nat.and_assoc, Nat.and_self]
      · have gp := smg (G := Gq h K q W w) (a := ((m - 1) &&& W) + 1) (m - (((m - 1) &&& W) + 1)) (fun t h1 h2 => by
          have tn : ¬ t &&& W = t := fun c => by
            have := and_nx m W t (by omega) c hs
            omega
          have tW : t < 2 ^ w := by
            have : m ≤ W := by rw [← hs]; exact Nat.and_le_right
            have := C.1
            omega
          obtain ⟨c, hc1, hc2⟩ : ∃ c, t.testBit c = true ∧ W.testBit c = false := by
            refine Classical.byContradiction fun no => tn (and_iff.2 fun c hc => ?_)
            cases ew : W.testBit c
            · exact absurd ⟨c, hc, ew⟩ no
            · rfl
          have cw : c < w := Nat.lt_of_not_le fun g3 => by rw [tb_big tW g3] at hc1; cases hc1
          unfold Gq
          rw [wq_0 hc1 hc2 w cw, Nat.zero_mul])
        rw [show ((m - 1) &&& W) + 1 + (m - (((m - 1) &&& W) + 1)) = m by omega] at gp
        omega) tq_N W (zL ((0 : Nat) : Int), x0, zI ((0 : Nat) : Int)) (by rw [tq_N_eq]; omega) ⟨W, 0, 0, x0, rfl, rfl, by rw [hx0]; exact hW, Nat.and_self W, by omega, by omega⟩
  unfold FX3_quakeLosses
  rw [zlet, zlet, bW, ← hx0]
  refine (congrArg (fun o => Option.bind o _) e).trans ((obind _ _).trans ?_)
  rw [ho]
theorem sm_2w {q W : Nat} (C : CWq w h K W) : sm (Gq h K q W w) (W + 1) = sm (Gq h K q W w) (2 ^ w) := by
  have l := C.1
  have gp := smg (G := Gq h K q W w) (a := W + 1) (2 ^ w - (W + 1)) (fun t h1 h2 => by
    have tn : ¬ t &&& W = t := fun c => by
      have : t &&& W ≤ W := Nat.and_le_right
      omega
    obtain ⟨c, hc1, hc2⟩ : ∃ c, t.testBit c = true ∧ W.testBit c = false := by
      refine Classical.byContradiction fun no => tn (and_iff.2 fun c hc => ?_)
      cases ew : W.testBit c
      · exact absurd ⟨c, hc, ew⟩ no
      · rfl
    have cw : c < w := Nat.lt_of_not_le fun g3 => by rw [tb_big (n := w) (by omega) g3] at hc1; cases hc1
    unfold Gq
    rw [wq_0 hc1 hc2 w cw, Nat.zero_mul])
  rw [show W + 1 + (2 ^ w - (W + 1)) = 2 ^ w by omega] at gp
  exact gp.symm
end QC
