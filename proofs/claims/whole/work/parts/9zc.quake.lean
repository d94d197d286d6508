/-! QUAKE: the reference; the query. -/
theorem sh0 : ∀ c : Nat, c < 8 → ((zI (c : Int) &&& 31).toBitVec.smod 32).toNat = c := by decide +kernel
theorem sh1 (s : Nat) (_ : s < 256) (c : Nat) (hc : c < 8) : (((zI (s : Int)) >>> (zI (c : Int) &&& 31)) &&& (1 : Int32)) = (1 : Int32) ↔ s.testBit c = true := by
  have hb : ∀ p, ((((zI (s : Int)) >>> (zI (c : Int) &&& 31)) &&& (1 : Int32)).toBitVec).getLsbD p = (decide (p = 0) && s.testBit c) := fun p => by
    rw [Int32.toBitVec_and, BitVec.getLsbD_and, Int32.toBitVec_shiftRight]
    have e1 : ((1 : Int32).toBitVec).getLsbD p = decide (p = 0) := by
      show (1#32).getLsbD p = _
      rw [BitVec.getLsbD_one]
      simp
    rw [e1]
    by_cases q : p = 0
    · subst q
      simp only [decide_true, Bool.and_true, Bool.true_and]
      show ((zI (s : Int)).toBitVec.sshiftRight (((zI (c : Int)) &&& 31).toBitVec.smod 32).toNat).getLsbD 0 = _
      rw [sh0 c hc, BitVec.getLsbD_sshiftRight]
      have e2 : (zI (s : Int)).toBitVec.getLsbD c = s.testBit c := by
        show (BitVec.ofInt 32 (s : Int)).getLsbD c = _
        rw [BitVec.ofInt_natCast, BitVec.getLsbD_ofNat]
        simp
        omega
      rw [if_pos (by omega), Nat.add_zero, e2]
      simp
    · simp [q]
  constructor
  · intro h
    have h0 := hb 0
    rw [h] at h0
    simpa using h0.symm
  · intro h
    apply Int32.toBitVec_inj.1
    apply BitVec.eq_of_getLsbD_eq
    intro p _
    rw [hb p, h]
    show _ = (1#32).getLsbD p
    rw [BitVec.getLsbD_one]
    simp
theorem sh2 : ∀ w : Nat, w < 9 → ((1 : Int32) <<< (zI (w : Int) &&& 31)) = zI ((2 ^ w : Nat) : Int) := by decide +kernel
def kq (h : Nat) (K : Nat → Nat) (s i p : Nat) : Nat := if p / 8 + 1 = h ∧ p % 8 < i ∧ s.testBit (p % 8) = true ∧ sto K p = true then 0 else K p
theorem lst_cell {w h i : Nat} (k : wh w h) (hi : i < w) : w * (h - 1) + i < w * h ∧ pl w (w * (h - 1) + i) = 8 * (h - 1) + i ∧ zI (w : Int) * (zI (h : Int) - (1 : Int32)) + zI (i : Int) = zI ((w * (h - 1) + i : Nat) : Int) := by
  obtain ⟨k1, k2, k3, k4⟩ := k
  obtain ⟨g, rfl⟩ : ∃ g, h = g + 1 := ⟨h - 1, by omega⟩
  rw [Nat.add_sub_cancel]
  refine ⟨by rw [Nat.mul_succ]; omega, ?_, ?_⟩
  · unfold pl
    rw [Nat.mul_add_div (by omega), Nat.mul_add_mod, Nat.div_eq_of_lt hi, Nat.mod_eq_of_lt hi]
    rfl
  · rw [zI_lit, zI_sub, zI_mul, zI_add]
    congr 1
    rw [Int.natCast_add (m := i), Int.natCast_mul]
    congr 2
    omega
section QR
variable {w h : Nat} {K : Nat → Nat}
theorem r_qw {J0 J : tq_PI} {i s q W : Nat} {M : tq_PL} (k : wh w h) (R0 : RW J0 w h) (C : CWq w h K W) (hs : s < 2 ^ w) (hq : q ≤ 10) (hK : ∀ p, K p ≤ 4) (hz : ∀ p, ar w h p = false → K p = 0) (hi : i < w) (F : FC 140 J0 J) (G : GR J w h 0 (kq h K s i)) : ∃ J2, FX12_quakes_s9 J M 136 (zI (s : Int)) (zI (q : Int)) (zL (wq q W s i : Nat)) (zI (i : Int)) = some (.inl (zL (wq q W s (i + 1) : Nat), zI ((i + 1 : Nat) : Int), J2)) ∧ FC 140 J0 J2 ∧ GR J2 w h 0 (kq h K s (i + 1)) := by
  have k' := k
  obtain ⟨k1, k2, k3, k4⟩ := k'
  obtain ⟨n1, n2, n3⟩ := lst_cell k hi
  have R1 := R0.fc F (by omega)
  have s8 : s < 256 := Nat.lt_of_lt_of_le hs (Nat.pow_le_pow_right (by omega) k2 : 2 ^ w ≤ 2 ^ 8)
  have pm : (8 * (h - 1) + i) % 8 = i := by omega
  have pd : (8 * (h - 1) + i) / 8 + 1 = h := by omega
  have h48 := wh_le k
  have ek := r_kind0 k G M (z := ((w * (h - 1) + i : Nat) : Int)) (by omega)
  rw [Int.toNat_natCast, n2] at ek
  have kk : kq h K s i (8 * (h - 1) + i) = K (8 * (h - 1) + i) := by
    unfold kq
    rw [if_neg (by rw [pm]; omega)]
  rw [kk] at ek
  have ek' : FX12_kindOf J M 136 (0 : Int32) (zI ((w * (h - 1) + i : Nat) : Int)) = some (zI (K (8 * (h - 1) + i) : Nat)) := ek
  have est : FX12_isStone J M (zI (K (8 * (h - 1) + i) : Nat)) = sto K (8 * (h - 1) + i) := r_stone J M (hK _)
  have ew : W.testBit i = sto K (8 * (h - 1) + i) := C.2 i hi
  have eq : wq q W s (i + 1) = wq q W s i * (if W.testBit i then (if s.testBit i then q else 10 - q) else if s.testBit i then 0 else 1) := rfl
  have z1 : zI (i : Int) + 1 = zI ((i + 1 : Nat) : Int) := by rw [zI_lit, zI_add]; rfl
  have same : ¬ (s.testBit i = true ∧ sto K (8 * (h - 1) + i) = true) → kq h K s (i + 1) = kq h K s i := fun g => funext fun p => by
    unfold kq
    by_cases c : p / 8 + 1 = h ∧ p % 8 = i
    · have : p = 8 * (h - 1) + i := by omega
      rw [if_neg (fun d => g ⟨by rw [← c.2]; exact d.2.2.1, by rw [← this]; exact d.2.2.2⟩), if_neg (by omega)]
    · have : (p / 8 + 1 = h ∧ p % 8 < i + 1 ∧ s.testBit (p % 8) = true ∧ sto K p = true) ↔ (p / 8 + 1 = h ∧ p % 8 < i ∧ s.testBit (p % 8) = true ∧ sto K p = true) := by
        constructor
        · rintro ⟨a, b, d⟩
          exact ⟨a, by omega, d⟩
        · rintro ⟨a, b, d⟩
          exact ⟨a, by omega, d⟩
      simp only [this]
  unfold FX12_quakes_s9
  rw [R1.1, R1.2.1, if_neg (by rw [zI_le (by omega) (by omega)]; omega), n3, ek', obind, zlet, est, eq, ew]
  cases e1 : sto K (8 * (h - 1) + i)
  · rw [if_pos (show tq_b false = 0 from rfl)]
    rw [e1] at same
    have sm := same (by simp)
    unfold FX12_quakes_j63L9 FX12_quakes_j109L9
    rw [z1]
    cases e2 : s.testBit i
    · rw [if_neg (by rw [sh1 s s8 i (by omega), e2]; simp)]
      refine ⟨J, ?_, F, by rw [sm]; exact G⟩
      simp
    · rw [if_pos (by rw [sh1 s s8 i (by omega)]; exact e2)]
      refine ⟨J, ?_, F, by rw [sm]; exact G⟩
      simp
      rfl
  · rw [if_neg (show ¬ tq_b true = 0 by decide)]
    rw [e1] at same
    unfold FX12_quakes_j89L9 FX12_quakes_j109L9
    rw [z1]
    cases e2 : s.testBit i
    · rw [e2] at same
      have sm := same (by simp)
      rw [if_neg (by rw [sh1 s s8 i (by omega), e2]; simp), if_neg (by rw [sh1 s s8 i (by omega), e2]; simp)]
      refine ⟨J, ?_, F, by rw [sm]; exact G⟩
      rw [show (10 : Int32) = zI 10 from rfl, zI_sub, zI_L (by omega), zL_mul]
      simp only [if_true, Bool.false_eq_true, if_false]
      rw [Int.natCast_mul, show ((10 - q : Nat) : Int) = 10 - (q : Int) by omega]
    · rw [if_pos (by rw [sh1 s s8 i (by omega)]; exact e2), if_pos (by rw [sh1 s s8 i (by omega)]; exact e2), if_pos (by rw [show (0 : Int32) = zI 0 from rfl, show (192 : Int32) = zI 192 from rfl, zI_le (by omega) (by omega), zI_lt (by omega) (by omega)]; omega), g15, zI_cl (by omega), Int.toNat_natCast, zI_L (by omega), zL_mul]
      refine ⟨tq_up2 J 140 (w * (h - 1) + i) (0 : Int32), ?_, F.tr FC.up, ⟨fun c hc => ?_, fun p => ?_, fun p hp => ?_⟩⟩
      · simp only [if_true]
        rw [Int.natCast_mul]
      · by_cases g : c = w * (h - 1) + i
        · rw [g, show 48 * 0 + (w * (h - 1) + i) = w * (h - 1) + i by omega, up_s, n2]
          unfold kq
          rw [if_pos ⟨pd, by omega, by rw [pm]; exact e2, e1⟩]
          rfl
        · rw [up_n _ _ (by omega), G.1 c hc]
          have np : ¬ pl w c = 8 * (h - 1) + i := fun e => by
            rw [← n2] at e
            rcases Nat.lt_trichotomy c (w * (h - 1) + i) with l | l | l
            · have := pl_lt k l; omega
            · exact g l
            · have := pl_lt k l; omega
          congr 2
          generalize pl w c = p at np
          unfold kq
          have : (p / 8 + 1 = h ∧ p % 8 < i + 1 ∧ s.testBit (p % 8) = true ∧ sto K p = true) ↔ (p / 8 + 1 = h ∧ p % 8 < i ∧ s.testBit (p % 8) = true ∧ sto K p = true) := by
            constructor
            · rintro ⟨a, b, d⟩
              exact ⟨a, by omega, d⟩
            · rintro ⟨a, b, d⟩
              exact ⟨a, by omega, d⟩
          simp only [this]
      · unfold kq
        split
        · omega
        · exact hK p
      · unfold kq
        split
        · rfl
        · exact hz p hp
theorem r_quakes {J : tq_PI} {i s q W : Nat} (R : RH J i w h K) (M : tq_PL) (C : CWq w h K W) (hs : s < 2 ^ w) (hq : q ≤ 10) : ∃ J2, FX12_quakes J M 136 (zI (s : Int)) (zI (q : Int)) = some (zL (Gq h K q W w s : Nat), J2) ∧ FC 140 J J2 := by
  have k := R.1.2.2
  obtain ⟨J1, e1, F1, R1, G1⟩ := R.told M
  have k0 : kq h K s 0 = K := funext fun p => by unfold kq; rw [if_neg (by omega)]
  obtain ⟨⟨x, J2⟩, e2, p1, F2, G2⟩ := it_for (f := fun p : Int64 × Int32 × tq_PI => FX12_quakes_s9 p.2.2 M 136 (zI (s : Int)) (zI (q : Int)) p.1 p.2.1) (fun j (t : Int64 × tq_PI) => (t.1, zI (j : Int), t.2)) w (fun j t => t.1 = zL (wq q W s j : Nat) ∧ FC 140 J1 t.2 ∧ GR t.2 w h 0 (kq h K s j)) (Post := fun t => t.1 = zL (wq q W s w : Nat) ∧ FC 140 J1 t.2 ∧ GR t.2 w h 0 (kq h K s w)) (fun j t hj ht => by
    obtain ⟨x, J2⟩ := t
    obtain ⟨rfl, F2, G2⟩ := ht
    dsimp only at F2 G2 ⊢
    obtain ⟨J3, e3, F3, G3⟩ := r_qw (M := M) k R1 C hs hq R.2.2.2.2.1 R.2.2.2.2.2 hj F2 G2
    exact Or.inl ⟨(_, J3), e3, rfl, F3, G3⟩) (fun t ht => by
    obtain ⟨x, J2⟩ := t
    obtain ⟨p1, F2, G2⟩ := ht
    dsimp only at p1 F2 G2 ⊢
    unfold FX12_quakes_s9
    rw [(R1.fc F2 (by omega)).1, if_pos (by rw [zI_le (by have := k.2.1; omega) (by have := k.2.1; omega)]; omega)]
    exact ⟨(x, J2), rfl, p1, F2, G2⟩) 0 ((1 : Int64), J1) (by omega) (by have := k.2.1; omega) ⟨rfl, FC.rf, by rw [k0]; exact G1⟩
  dsimp only at p1 F2 G2
  have wl : wq q W s w ≤ 10 ^ 8 := Nat.le_trans (wq_le hq w) (Nat.pow_le_pow_right (by omega) k.2.1)
  have e2' : tq_it (fun p : Int64 × Int32 × tq_PI => FX12_quakes_s9 p.2.2 M 136 (zI (s : Int)) (zI (q : Int)) p.1 p.2.1) tq_N ((1 : Int64), (0 : Int32), J1) = some (x, J2) := e2
  subst p1
  unfold FX12_quakes
  rw [e1, obind, e2', obind]
  dsimp only
  have z0 : (zL (wq q W s w : Nat) = 0) ↔ wq q W s w = 0 := by
    rw [show (0 : Int64) = zL 0 from rfl, zL_eq (by omega) (by omega)]
    omega
  by_cases g : wq q W s w = 0
  · rw [if_pos (by rw [lgc, z0]; exact g)]
    refine ⟨J2, ?_, F1.tr F2⟩
    unfold Gq
    rw [g, Nat.zero_mul]
    rfl
  · rw [if_neg (by rw [lgc, z0]; exact g)]
    have sub : ∀ c, s.testBit c = true → W.testBit c = true := fun c hc => by
      cases ew : W.testBit c
      · refine absurd (wq_0 hc ew w (Nat.lt_of_not_le fun g3 => ?_)) g
        rw [tb_big hs g3] at hc
        cases hc
      · rfl
    have kw : kq h K s w = ks h K s := funext fun p => by
      unfold kq ks
      have : (p / 8 + 1 = h ∧ p % 8 < w ∧ s.testBit (p % 8) = true ∧ sto K p = true) ↔ (p / 8 + 1 = h ∧ s.testBit (p % 8) = true) := by
        constructor
        · rintro ⟨a, b, c, d⟩
          exact ⟨a, c⟩
        · rintro ⟨a, b⟩
          have pw : p % 8 < w := Nat.lt_of_not_le fun g3 => by rw [tb_big hs g3] at b; cases b
          refine ⟨a, pw, b, ?_⟩
          have := C.2 _ pw
          rw [sub _ b, show 8 * (h - 1) + p % 8 = p by omega] at this
          exact this.symm
      simp only [this]
    rw [kw] at G2
    obtain ⟨n, J3, e3, G3, F3, hn⟩ := r_falls (R1.fc F2 (by omega)) G2 (by omega) M
    have e3' : FX12_falls J2 M 136 (0 : Int32) = some (zI (n : Int), J3) := e3
    have nl : n = ls h K s := by unfold ls; omega
    have l6 := ls_le h K s
    rw [e3', obind]
    dsimp only
    rw [zI_L (by omega), zL_mul, nl]
    refine ⟨J3, ?_, (F1.tr F2).tr F3.fc⟩
    unfold Gq
    rw [Int.natCast_mul]
theorem r_base {J : tq_PI} {W : Nat} {M : tq_PL} (R : RW J w h) (G : GR J w h 0 K) (C : CWq w h K W) (y o : Int32) : tq_it (fun p : Int64 × Int32 => FX12_quake_s32 J M 136 y o p.1 p.2) tq_N ((1 : Int64), (0 : Int32)) = some (zL ((10 ^ fb_ct W.testBit w : Nat) : Int)) := by
  have k := R.2.2
  obtain ⟨k1, k2, k3, k4⟩ := k
  obtain ⟨v, e, hv⟩ := it_for (f := fun p : Int64 × Int32 => FX12_quake_s32 J M 136 y o p.1 p.2) (fun j (t : Int64) => (t, zI (j : Int))) w (fun j t => t = zL ((10 ^ fb_ct W.testBit j : Nat) : Int)) (Post := fun t => t = zL ((10 ^ fb_ct W.testBit w : Nat) : Int)) (fun i t hi ht => by
    subst ht
    dsimp only
    obtain ⟨n1, n2, n3⟩ := lst_cell R.2.2 hi
    have ek := r_kind0 R.2.2 G M (z := ((w * (h - 1) + i : Nat) : Int)) (by omega)
    rw [Int.toNat_natCast, n2] at ek
    have ek' : FX12_kindOf J M 136 (0 : Int32) (zI ((w * (h - 1) + i : Nat) : Int)) = some (zI (K (8 * (h - 1) + i) : Nat)) := ek
    have est : FX12_isStone J M (zI (K (8 * (h - 1) + i) : Nat)) = sto K (8 * (h - 1) + i) := r_stone J M (G.2.1 _)
    have ew : W.testBit i = sto K (8 * (h - 1) + i) := C.2 i hi
    unfold FX12_quake_s32 FX12_quake_j75L32
    rw [R.1, R.2.1, if_neg (by rw [zI_le (by omega) (by omega)]; omega), n3, ek', obind, zlet, est, fb_ct_succ, ew]
    have z1 : zI (i : Int) + 1 = zI ((i + 1 : Nat) : Int) := by rw [zI_lit, zI_add]; rfl
    cases e1 : sto K (8 * (h - 1) + i)
    · rw [if_pos (show tq_b false = 0 from rfl), z1]
      exact Or.inl ⟨_, rfl, by simp⟩
    · rw [if_neg (show ¬ tq_b true = 0 by decide), z1]
      refine Or.inl ⟨_, rfl, ?_⟩
      rw [show (10 : Int64) = zL 10 from rfl, zL_mul]
      simp only [if_true]
      rw [Nat.pow_succ, Int.natCast_mul]
      rfl) (fun t ht => by
    dsimp only
    unfold FX12_quake_s32
    rw [R.1, if_pos (by rw [zI_le (by omega) (by omega)]; omega)]
    exact ⟨_, rfl, ht⟩) 0 (1 : Int64) (by omega) (by omega) rfl
  rw [← hv]
  exact e
theorem r_qsum {J : tq_PI} {i q W : Nat} (R : RH J i w h K) (M : tq_PL) (C : CWq w h K W) (hq : q ≤ 10) (o : Int32) (b : Int64) : ∃ J2, tq_it (fun p : Int64 × Int32 × tq_PI => FX12_quake_s90 p.2.2 M 136 (zI (q : Int)) o b p.1 p.2.1) tq_N ((0 : Int64), (0 : Int32), J) = some (zL (sm (Gq h K q W w) (2 ^ w) : Nat), J2) ∧ FC 140 J J2 := by
  have k := R.1.2.2
  have w8 : 2 ^ w ≤ 256 := (Nat.pow_le_pow_right (by omega) k.2.1 : 2 ^ w ≤ 2 ^ 8)
  have s2 := sh2 w (by have := k.2.1; omega)
  obtain ⟨N, hN⟩ : ∃ N, N = 2 ^ w := ⟨_, rfl⟩
  rw [← hN] at w8 s2 ⊢
  obtain ⟨⟨x, J2⟩, e2, p1, F2⟩ := it_for (f := fun p : Int64 × Int32 × tq_PI => FX12_quake_s90 p.2.2 M 136 (zI (q : Int)) o b p.1 p.2.1) (fun j (t : Int64 × tq_PI) => (t.1, zI (j : Int), t.2)) N (fun j t => t.1 = zL (sm (Gq h K q W w) j : Nat) ∧ FC 140 J t.2) (Post := fun t => t.1 = zL (sm (Gq h K q W w) N : Nat) ∧ FC 140 J t.2) (fun j t hj ht => by
    obtain ⟨x, J2⟩ := t
    obtain ⟨rfl, F2⟩ := ht
    dsimp only at F2 ⊢
    have R2 := R.fq F2.fq
    obtain ⟨J3, e3, F3⟩ := r_quakes R2 M C (s := j) (by rw [← hN]; exact hj) hq
    unfold FX12_quake_s90
    rw [R2.1.1, s2, if_neg (by rw [zI_le (by omega) (by omega)]; omega), e3, obind]
    dsimp only
    refine Or.inl ⟨(_, J3), by rw [zI_lit, zI_add, Int.natCast_add]; rfl, ?_, F2.tr F3⟩
    have es : sm (Gq h K q W w) (j + 1) = sm (Gq h K q W w) j + Gq h K q W w j := rfl
    dsimp only
    rw [zL_add, es, Int.natCast_add]) (fun t ht => by
    obtain ⟨x, J2⟩ := t
    obtain ⟨p1, F2⟩ := ht
    dsimp only at p1 F2 ⊢
    have R2 := R.fq F2.fq
    unfold FX12_quake_s90
    rw [R2.1.1, s2, if_pos (by rw [zI_le (by omega) (by omega)]; omega)]
    exact ⟨(x, J2), rfl, p1, F2⟩) 0 ((0 : Int64), J) (by omega) (by omega) ⟨rfl, FC.rf⟩
  dsimp only at p1 F2
  rw [← p1]
  exact ⟨J2, e2, F2⟩
end QR
theorem q_quake {I : tq_PI} {L : tq_PL} (V : HV I L 1 0) (x y o : Int32) : ∃ v, FX11_quake I L 0 x y o = some v ∧ ∀ J M, J 137 = I 137 → ∃ J2, FX12_quake J M 136 x y o = some (v, J2) ∧ FP J J2 := by
  rcases hill_case V x with ⟨e, r⟩ | ⟨i, w, h, K, hi, rfl, e, H, S, r⟩
  · exact ⟨-1, by unfold FX11_quake; rw [rg_0_0, e, obind]; rfl, fun J M hJ => ⟨J, by unfold FX12_quake; rw [r J M hJ, obind]; rfl, FP.rf⟩⟩
  · obtain ⟨z, hz, rfl⟩ := zI_of y
    have t0 : tq_b false = 0 := rfl
    have t1 : ¬ tq_b true = 0 := by decide
    have k := H.k
    by_cases g : 0 ≤ z ∧ z ≤ 10
    · obtain ⟨q, rfl⟩ : ∃ q : Nat, z = q := ⟨z.toNat, by omega⟩
      have hq : q ≤ 10 := by omega
      obtain ⟨W, C, hW⟩ := c_shaken H
      have w8 : 2 ^ w ≤ 256 := (Nat.pow_le_pow_right (by omega) k.2.1 : 2 ^ w ≤ 2 ^ 8)
      have mW := fb_ct_le W.testBit w
      have m8 : fb_ct W.testBit w ≤ 8 := by have := k.2.1; omega
      have bW : FJ13_bitCount_95d88 I L (FX3_stones I L (8 + 10 * i) &&& L (8 + 10 * i) 5) = zI (fb_ct W.testBit w : Nat) := by rw [bc_eq, ct_shift hW C.1 (by have := k.2.1; have := k.2.2.2; omega)]
      have el := c_losses H C hW hq
      rw [sm_2w C] at el
      have sl : sm (Gq h K q W w) (2 ^ w) ≤ 2 ^ w * 6400000000 := sm_le (fun t => Gq_le hq k.2.1 t) _
      have sl2 : 2 ^ w * 6400000000 ≤ 256 * 6400000000 := Nat.mul_le_mul_right _ w8
      generalize hS : sm (Gq h K q W w) (2 ^ w) = Sm at el sl
      have ep := c_power I L (a := 10) m8
      have ep' : FX11_power I L (10 : Int64) (zI (fb_ct W.testBit w : Nat)) = some (zL ((10 ^ fb_ct W.testBit w : Nat) : Int)) := ep
      have b1 : 10 ^ fb_ct W.testBit w ≤ 10 ^ 8 := Nat.pow_le_pow_right (by omega) m8
      have b0 : 0 < 10 ^ fb_ct W.testBit w := Nat.pow_pos (by omega)
      generalize hB : 10 ^ fb_ct W.testBit w = B at ep' b1 b0
      have gp : 0 < Nat.gcd Sm B := Nat.gcd_pos_of_pos_right _ b0
      have gl : Nat.gcd Sm B ≤ B := Nat.gcd_le_right _ b0
      have n0 : ¬ zL (Nat.gcd Sm B : Nat) = 0 := by
        rw [show (0 : Int64) = zL 0 from rfl, zL_eq (by omega) (by omega)]
        omega
      refine ⟨if o = 0 then zL (Sm : Int) / zL (Nat.gcd Sm B : Nat) else zL (B : Int) / zL (Nat.gcd Sm B : Nat), ?_, fun J M hJ => ?_⟩
      · unfold FX11_quake
        rw [rg_0_0, e, obind, oel_s, if_neg (by rw [zI_lit, zI_lt (by omega) (by omega)]; omega), if_pos (by rw [zI_lit, zI_le (by omega) (by omega)]; omega), el, obind, zlet, zlet, bW, ep', obind, c_gcd I L (by omega) (by omega), obind, if_pos (zL_ge1 gp (by omega)), if_pos n0, if_pos n0]
        by_cases o0 : o = 0
        · rw [if_pos o0, if_pos o0]
        · rw [if_neg o0, if_neg o0]
      · obtain ⟨J1, J2, k1, k2, R1, R2, G2, P3, P4, k3, k4, k5, k6, A⟩ := r J M hJ
        have RHJ : RH J2 i w h K := ⟨R2, k4, by rw [k6]; exact A, hi, H.le, H.z⟩
        have eb := r_base (M := M) R2 G2 C (zI (q : Int)) o
        rw [hB] at eb
        obtain ⟨J3, e3, F3⟩ := r_qsum RHJ M C hq o (zL (B : Int))
        rw [hS] at e3
        refine ⟨J3, ?_, P4.tr (F3.fp (by unfold psl; omega))⟩
        unfold FX12_quake FX12_quake_j130
        rw [k1, obind]
        dsimp only
        rw [if_neg t1, zlet, show (0 : Int32) = zI 0 from rfl, show (10 : Int32) = zI 10 from rfl, r_isIn _ _ (by omega) (by omega) (by omega), decide_eq_true g, show zI 0 = (0 : Int32) from rfl, if_neg t1, k2, obind, eb, obind, e3, obind]
        dsimp only
        rw [r_gcd J3 M (by omega) (by omega), obind, obind, if_pos n0, if_pos n0]
        by_cases o0 : o = 0
        · rw [if_pos o0, if_pos o0]
        · rw [if_neg o0, if_neg o0]
    · refine ⟨-1, ?_, fun J M hJ => ?_⟩
      · unfold FX11_quake FX11_quake_j25
        rw [rg_0_0, e, obind, oel_s]
        by_cases z0 : z < 0
        · rw [if_pos (by rw [zI_lit, zI_lt (by omega) (by omega)]; exact z0)]
        · rw [if_neg (by rw [zI_lit, zI_lt (by omega) (by omega)]; exact z0), if_neg (by rw [zI_lit, zI_le (by omega) (by omega)]; omega)]
      · obtain ⟨J1, J2, k1, k2, R1, R2, G2, P3, P4, -⟩ := r J M hJ
        refine ⟨J1, ?_, P3⟩
        unfold FX12_quake FX12_quake_j18
        rw [k1, obind]
        dsimp only
        rw [if_neg t1, zlet, show (0 : Int32) = zI 0 from rfl, show (10 : Int32) = zI 10 from rfl, r_isIn _ _ (by omega) (by omega) (by omega), decide_eq_false g, show zI 0 = (0 : Int32) from rfl, if_pos t0]
