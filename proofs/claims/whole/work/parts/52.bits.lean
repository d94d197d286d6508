/-! BITS of a long, as a set of places. -/
def bb (x : Int64) (p : Nat) : Bool := x.toBitVec.getLsbD p
theorem bb_big {x : Int64} {p : Nat} (h : 64 ≤ p) : bb x p = false := BitVec.getLsbD_of_ge _ _ h
theorem bb_ext {x y : Int64} (h : ∀ p, p < 64 → bb x p = bb y p) : x = y := Int64.toBitVec_inj.1 (BitVec.eq_of_getLsbD_eq h)
theorem bb_inj {x y : Int64} (h : bb x = bb y) : x = y := bb_ext fun p _ => by rw [h]
theorem bb_and (x y : Int64) (p : Nat) : bb (x &&& y) p = (bb x p && bb y p) := by unfold bb; rw [Int64.toBitVec_and, BitVec.getLsbD_and]
theorem bb_or (x y : Int64) (p : Nat) : bb (x ||| y) p = (bb x p || bb y p) := by unfold bb; rw [Int64.toBitVec_or, BitVec.getLsbD_or]
theorem bb_m1 : ∀ p, p < 64 → bb (-1) p = true := by decide +kernel
theorem bb_not (x : Int64) (p : Nat) : bb (x ^^^ (-1)) p = (decide (p < 64) && !bb x p) := by
  by_cases h : p < 64
  · have : bb (x ^^^ (-1)) p = (bb x p ^^ bb (-1) p) := by unfold bb; rw [Int64.toBitVec_xor, BitVec.getLsbD_xor]
    rw [this, bb_m1 p h]
    simp [h]
  · rw [bb_big (by omega)]
    simp [h]
theorem bb_0 (p : Nat) : bb 0 p = false := by
  by_cases h : p < 64
  · exact (by decide +kernel : ∀ p, p < 64 → bb 0 p = false) p h
  · exact bb_big (by omega)
theorem bb_1 (p : Nat) : bb 1 p = decide (p = 0) := by
  by_cases h : p < 64
  · exact (by decide +kernel : ∀ p, p < 64 → bb 1 p = decide (p = 0)) p h
  · rw [bb_big (by omega)]; simp; omega
theorem bb_widest (p : Nat) : bb (281474976710655 : Int64) p = decide (p < 48) := by
  by_cases h : p < 64
  · exact (by decide +kernel : ∀ p, p < 64 → bb (281474976710655 : Int64) p = decide (p < 48)) p h
  · rw [bb_big (by omega)]; simp; omega
theorem bb_leftm (p : Nat) : bb (1103823438081 : Int64) p = (decide (p < 48) && decide (p % 8 = 0)) := by
  by_cases h : p < 64
  · exact (by decide +kernel : ∀ p, p < 64 → bb (1103823438081 : Int64) p = (decide (p < 48) && decide (p % 8 = 0))) p h
  · rw [bb_big (by omega)]; simp; omega
theorem bb_nright {p : Nat} (h : p < 48) : bb (-141289400074369 : Int64) p = !decide (p % 8 = 7) := (by decide +kernel : ∀ p, p < 48 → bb (-141289400074369 : Int64) p = !decide (p % 8 = 7)) p h
theorem bb_nleft {p : Nat} (h : p < 48) : bb (-1103823438082 : Int64) p = !decide (p % 8 = 0) := (by decide +kernel : ∀ p, p < 48 → bb (-1103823438082 : Int64) p = !decide (p % 8 = 0)) p h
theorem zs_l : ∀ k : Nat, k < 64 → (((zI (k : Int)).toInt64 &&& 63).toBitVec.smod 64).toNat = k := by decide +kernel
theorem zs_u : ∀ k : Nat, k < 64 → (((zI (k : Int)).toInt64.toUInt64 &&& Int64.toUInt64 63).toBitVec % 64).toNat = k := by decide +kernel
theorem bb_shl {z : Int} (hz : 0 ≤ z ∧ z < 64) (x : Int64) (p : Nat) : bb (x <<< (Int32.toInt64 (zI z) &&& 63)) p = (decide (p < 64) && decide (z.toNat ≤ p) && bb x (p - z.toNat)) := by
  obtain ⟨k, rfl⟩ : ∃ k : Nat, z = k := ⟨z.toNat, by omega⟩
  rw [Int.toNat_natCast]
  unfold bb
  rw [Int64.toBitVec_shiftLeft]
  show (x.toBitVec <<< (((zI (k : Int)).toInt64 &&& 63).toBitVec.smod 64).toNat).getLsbD p = _
  rw [zs_l k (by omega), BitVec.getLsbD_shiftLeft]
  rcases Nat.lt_or_ge p k with h | h
  · simp [h, Nat.not_le.mpr h]
  · simp [h, Nat.not_lt.mpr h]
theorem bb_shr {z : Int} (hz : 0 ≤ z ∧ z < 64) (x : Int64) (p : Nat) : bb ((Int64.toUInt64 x >>> ((Int32.toInt64 (zI z)).toUInt64 &&& Int64.toUInt64 63)).toInt64) p = bb x (z.toNat + p) := by
  obtain ⟨k, rfl⟩ : ∃ k : Nat, z = k := ⟨z.toNat, by omega⟩
  rw [Int.toNat_natCast]
  show (x.toUInt64 >>> ((zI (k : Int)).toInt64.toUInt64 &&& Int64.toUInt64 63)).toBitVec.getLsbD p = x.toUInt64.toBitVec.getLsbD (k + p)
  rw [UInt64.toBitVec_shiftRight]
  show (x.toUInt64.toBitVec >>> (((zI (k : Int)).toInt64.toUInt64 &&& Int64.toUInt64 63).toBitVec % 64).toNat).getLsbD p = _
  rw [zs_u k (by omega), BitVec.getLsbD_ushiftRight]
theorem bb_one {z : Int} (hz : 0 ≤ z ∧ z < 64) (p : Nat) : bb ((1 : Int64) <<< (Int32.toInt64 (zI z) &&& 63)) p = decide (p = z.toNat) := by
  rw [bb_shl hz, bb_1]
  by_cases h : p = z.toNat
  · simp [h]; omega
  · simp [h]; omega
theorem bb_eq0 {x : Int64} : x = 0 ↔ ∀ p, p < 64 → bb x p = false := ⟨fun h p _ => by rw [h, bb_0], fun h => bb_ext fun p hp => by rw [h p hp, bb_0]⟩
theorem bb_ne0 {x : Int64} (h : x ≠ 0) : ∃ p, p < 64 ∧ bb x p = true := by
  refine Classical.byContradiction fun q => h (bb_eq0.2 fun p hp => ?_)
  cases e : bb x p
  · rfl
  · exact absurd ⟨p, hp, e⟩ q
/-! counting the bits -/
def pc_m (c : Nat) : Nat → Nat
  | 0 => 0
  | j + 1 => c + 256 * pc_m c j
theorem pc_and (a b n m : Nat) (ha : a < 256) (hb : b < 256) : (a + 256 * n) &&& (b + 256 * m) = (a &&& b) + 256 * (n &&& m) := by
  have h1 : (a &&& b) < 256 := Nat.lt_of_le_of_lt Nat.and_le_left ha
  have d : ((a + 256 * n) &&& (b + 256 * m)) / 256 = n &&& m := by
    have := Nat.and_div_two_pow (a := a + 256 * n) (b := b + 256 * m) (n := 8)
    rw [show (2 : Nat) ^ 8 = 256 from rfl] at this
    rw [this]
    congr 1 <;> omega
  have r : ((a + 256 * n) &&& (b + 256 * m)) % 256 = a &&& b := by
    have := Nat.and_mod_two_pow (a := a + 256 * n) (b := b + 256 * m) (n := 8)
    rw [show (2 : Nat) ^ 8 = 256 from rfl] at this
    rw [this]
    congr 1 <;> omega
  omega
def pc_1 (j n : Nat) : Nat := n - (n / 2 &&& pc_m 85 j)
def pc_2 (j n : Nat) : Nat := (n &&& pc_m 51 j) + (n / 4 &&& pc_m 51 j)
def pc_3 (j n : Nat) : Nat := n + n / 16 &&& pc_m 15 j
def pc_b (a : Nat) : Nat := fb_ct (fun i => a.testBit i) 8
theorem pc_t1 : ∀ t, t < 2 → ∀ a, a < 256 → (a / 2 + 128 * t &&& 85) = (a / 2 &&& 85) ∧ (a / 2 &&& 85) ≤ a ∧ a - (a / 2 &&& 85) < 256 := by decide +kernel
theorem pc_t2 : ∀ t, t < 4 → ∀ a, a < 256 → ((a - (a / 2 &&& 85)) / 4 + 64 * t &&& 51) = ((a - (a / 2 &&& 85)) / 4 &&& 51) ∧ ((a - (a / 2 &&& 85)) &&& 51) + ((a - (a / 2 &&& 85)) / 4 &&& 51) < 256 := by decide +kernel
def pc_ab (a : Nat) : Nat := ((a - (a / 2 &&& 85)) &&& 51) + ((a - (a / 2 &&& 85)) / 4 &&& 51)
theorem pc_t3 : ∀ t, t < 5 → ∀ a, a < 256 → (pc_ab a + (pc_ab a / 16 + 16 * t)) < 256 ∧ (pc_ab a + (pc_ab a / 16 + 16 * t) &&& 15) = pc_b a ∧ pc_ab a % 16 < 5 ∧ pc_b a ≤ 8 := by decide +kernel
def pc_all : Nat → Nat → Nat
  | 0, _ => 0
  | j + 1, n => pc_b (n % 256) + 256 * pc_all j (n / 256)
theorem pc_main : ∀ j n, n < 256 ^ j → (n / 2 &&& pc_m 85 j) ≤ n ∧ (pc_2 j (pc_1 j n)) % 16 < 5 ∧ pc_1 j n < 256 ^ j ∧ pc_2 j (pc_1 j n) < 256 ^ j ∧ pc_3 j (pc_2 j (pc_1 j n)) = pc_all j n := by
  intro j
  induction j with
  | zero =>
    intro n h
    have : n = 0 := by simpa using h
    subst this
    decide
  | succ j ih =>
    intro n h
    obtain ⟨a, m, ha, e⟩ : ∃ a m, a < 256 ∧ n = a + 256 * m := ⟨n % 256, n / 256, Nat.mod_lt _ (by omega), by omega⟩
    have hm : m < 256 ^ j := by rw [Nat.pow_succ] at h; omega
    obtain ⟨i1, i2, i3, i4, i5⟩ := ih m hm
    have e1 : n / 2 = (a / 2 + 128 * (m % 2)) + 256 * (m / 2) := by omega
    have x1 : (n / 2 &&& pc_m 85 (j + 1)) = (a / 2 &&& 85) + 256 * (m / 2 &&& pc_m 85 j) := by
      rw [e1, pc_m, pc_and _ _ _ _ (by omega) (by omega), (pc_t1 (m % 2) (by omega) a ha).1]
    obtain ⟨_, t2, t3⟩ := pc_t1 0 (by omega) a ha
    have y1 : pc_1 (j + 1) n = (a - (a / 2 &&& 85)) + 256 * pc_1 j m := by
      unfold pc_1
      rw [x1]
      omega
    generalize hb : a - (a / 2 &&& 85) = b at *
    generalize hu : pc_1 j m = u at *
    have e2 : (b + 256 * u) / 4 = (b / 4 + 64 * (u % 4)) + 256 * (u / 4) := by omega
    have s2 := pc_t2 (u % 4) (by omega) a ha
    rw [hb] at s2
    have y2 : pc_2 (j + 1) (b + 256 * u) = pc_ab a + 256 * pc_2 j u := by
      unfold pc_2
      rw [e2, pc_m, pc_and _ _ _ _ t3 (by omega), pc_and _ _ _ _ (by omega) (by omega), s2.1]
      unfold pc_ab
      rw [hb]
      omega
    generalize hv : pc_2 j u = v at *
    have s3 := pc_t3 (v % 16) (by omega) a ha
    have e3 : (pc_ab a + 256 * v) + (pc_ab a + 256 * v) / 16 = (pc_ab a + (pc_ab a / 16 + 16 * (v % 16))) + 256 * (v + v / 16) := by omega
    have y3 : pc_3 (j + 1) (pc_ab a + 256 * v) = pc_b a + 256 * pc_3 j v := by
      unfold pc_3
      rw [e3, pc_m, pc_and _ _ _ _ s3.1 (by omega), s3.2.1]
    have hab : pc_ab a < 256 := by have := s3.1; omega
    refine ⟨by rw [x1]; omega, ?_, ?_, ?_, ?_⟩
    · rw [y1, y2]; omega
    · rw [y1, Nat.pow_succ]; omega
    · rw [y1, y2, Nat.pow_succ]; omega
    · rw [y1, y2, y3, i5]
      show _ = pc_b (n % 256) + 256 * pc_all j (n / 256)
      rw [show n % 256 = a by omega, show n / 256 = m by omega]
theorem pc_y (j a m : Nat) (ha : a < 256) (hm : m < 256 ^ j) : pc_2 (j + 1) (pc_1 (j + 1) (a + 256 * m)) = pc_ab a + 256 * pc_2 j (pc_1 j m) := by
  have i1 := (pc_main j m hm).1
  have e1 : (a + 256 * m) / 2 = (a / 2 + 128 * (m % 2)) + 256 * (m / 2) := by omega
  have x1 : ((a + 256 * m) / 2 &&& pc_m 85 (j + 1)) = (a / 2 &&& 85) + 256 * (m / 2 &&& pc_m 85 j) := by
    rw [e1, pc_m, pc_and _ _ _ _ (by omega) (by omega), (pc_t1 (m % 2) (by omega) a ha).1]
  obtain ⟨_, t2, t3⟩ := pc_t1 0 (by omega) a ha
  have y1 : pc_1 (j + 1) (a + 256 * m) = (a - (a / 2 &&& 85)) + 256 * pc_1 j m := by
    unfold pc_1
    rw [x1]
    omega
  rw [y1]
  generalize hb : a - (a / 2 &&& 85) = b at *
  generalize hu : pc_1 j m = u at *
  have e2 : (b + 256 * u) / 4 = (b / 4 + 64 * (u % 4)) + 256 * (u / 4) := by omega
  have s2 := pc_t2 (u % 4) (by omega) a ha
  rw [hb] at s2
  unfold pc_2
  rw [e2, pc_m, pc_and _ _ _ _ t3 (by omega), pc_and _ _ _ _ (by omega) (by omega), s2.1]
  unfold pc_ab
  rw [hb]
  omega
theorem pc_t4 : ∀ a, a < 256 → pc_ab a ≤ 68 := by decide +kernel
theorem pc_le : ∀ j n, n < 256 ^ j → pc_2 j (pc_1 j n) ≤ 68 * pc_m 1 j := by
  intro j
  induction j with
  | zero =>
    intro n h
    have : n = 0 := by simpa using h
    subst this
    decide
  | succ j ih =>
    intro n h
    obtain ⟨a, m, ha, e⟩ : ∃ a m, a < 256 ∧ n = a + 256 * m := ⟨n % 256, n / 256, Nat.mod_lt _ (by omega), by omega⟩
    have hm : m < 256 ^ j := by rw [Nat.pow_succ] at h; omega
    have i1 := ih m hm
    have q := (pc_y j a m ha hm)
    rw [e, q, pc_m]
    have := pc_t4 a ha
    omega
theorem pc_b2 (n : Nat) (h : n < 256 ^ 8) : pc_2 8 (pc_1 8 n) + pc_2 8 (pc_1 8 n) / 16 < 256 ^ 8 := by
  have h1 := pc_le 8 n h
  have h2 : pc_m 1 8 = 72340172838076673 := rfl
  rw [h2] at h1
  omega
theorem pc_ct (n : Nat) : ∀ j, fb_ct (fun i => n.testBit i) (8 * (j + 1)) = fb_ct (fun i => n.testBit i) 8 + fb_ct (fun i => (n / 256).testBit i) (8 * j) := by
  intro j
  rw [show 8 * (j + 1) = 8 + 8 * j by omega, fb_ct_split]
  congr 1
  refine fb_ct_cong fun k _ => ?_
  rw [show (256 : Nat) = 2 ^ 8 from rfl, Nat.testBit_div_two_pow, Nat.add_comm]
theorem pc_low (n : Nat) : fb_ct (fun i => n.testBit i) 8 = pc_b (n % 256) := by
  refine fb_ct_cong fun k hk => ?_
  rw [show (256 : Nat) = 2 ^ 8 from rfl, Nat.testBit_mod_two_pow]
  simp [hk]
theorem pc_dv {a m : Nat} (X : Nat) (h : a < m) : (a + m * X) / m = X := by rw [Nat.add_mul_div_left _ _ (by omega), Nat.div_eq_of_lt h, Nat.zero_add]
theorem pc_fold (c0 c1 c2 c3 c4 c5 c6 c7 C D E : Nat) (b0 : c0 ≤ 8) (b1 : c1 ≤ 8) (b2 : c2 ≤ 8) (b3 : c3 ≤ 8) (b4 : c4 ≤ 8) (b5 : c5 ≤ 8) (b6 : c6 ≤ 8) (b7 : c7 ≤ 8) (hC : C = c0 + 256 * (c1 + 256 * (c2 + 256 * (c3 + 256 * (c4 + 256 * (c5 + 256 * (c6 + 256 * (c7 + 256 * 0)))))))) (hD : D = C + C / 256) (hE : E = D + D / 65536) : (E + E / 4294967296) % 128 = c0 + (c1 + (c2 + (c3 + (c4 + (c5 + (c6 + c7)))))) := by
  have k1 : c0 < 256 := by clear hC hD hE; omega
  have k2 : (c0 + c1) + 256 * (c1 + c2) < 65536 := by clear hC hD hE; omega
  have k3 : (c0 + c1 + c2 + c3) + 256 * (c1 + c2 + c3 + c4) + 65536 * (c2 + c3 + c4 + c5) + 16777216 * (c3 + c4 + c5 + c6) < 4294967296 := by clear hC hD hE; omega
  have k4 : c0 + c1 + c2 + c3 + c4 + c5 + c6 + c7 < 128 := by clear hC hD hE; omega
  have h1 : C / 256 = c1 + 256 * (c2 + 256 * (c3 + 256 * (c4 + 256 * (c5 + 256 * (c6 + 256 * (c7 + 256 * 0)))))) := by rw [hC]; exact pc_dv _ k1
  have h2 : D = ((c0 + c1) + 256 * (c1 + c2)) + 65536 * (c2 + c3 + 256 * (c3 + c4) + 65536 * (c4 + c5) + 16777216 * (c5 + c6) + 4294967296 * (c6 + c7) + 1099511627776 * c7) := by
    rw [hD, h1, hC]
    clear k1 k2 k3 k4 hD hE h1 hC b0 b1 b2 b3 b4 b5 b6 b7
    omega
  have h3 : D / 65536 = c2 + c3 + 256 * (c3 + c4) + 65536 * (c4 + c5) + 16777216 * (c5 + c6) + 4294967296 * (c6 + c7) + 1099511627776 * c7 := by rw [h2]; exact pc_dv _ k2
  have h4 : E = ((c0 + c1 + c2 + c3) + 256 * (c1 + c2 + c3 + c4) + 65536 * (c2 + c3 + c4 + c5) + 16777216 * (c3 + c4 + c5 + c6)) + 4294967296 * (c4 + c5 + c6 + c7 + 256 * (c5 + c6 + c7) + 65536 * (c6 + c7) + 16777216 * c7) := by
    rw [hE, h3, h2]
    clear k1 k2 k3 k4 hD hE h1 hC h2 h3 b0 b1 b2 b3 b4 b5 b6 b7
    omega
  have h5 : E / 4294967296 = c4 + c5 + c6 + c7 + 256 * (c5 + c6 + c7) + 65536 * (c6 + c7) + 16777216 * c7 := by rw [h4]; exact pc_dv _ k3
  have h6 : E + E / 4294967296 = (c0 + c1 + c2 + c3 + c4 + c5 + c6 + c7) + 128 * (2 * (c1 + c2 + c3 + c4 + c5 + c6 + c7) + 512 * (c2 + c3 + c4 + c5 + c6 + c7) + 131072 * (c3 + c4 + c5 + c6 + c7) + 33554432 * (c4 + c5 + c6 + c7 + 256 * (c5 + c6 + c7) + 65536 * (c6 + c7) + 16777216 * c7)) := by
    rw [h5, h4]
    clear k1 k2 k3 k4 hD hE h1 hC h2 h3 h4 h5 b0 b1 b2 b3 b4 b5 b6 b7
    omega
  rw [h6, Nat.add_mul_mod_self_left, Nat.mod_eq_of_lt k4]
  clear hD hE h1 hC h2 h3 h4 h5 h6
  omega
theorem pc_sum (n : Nat) (h : n < 256 ^ 8) : (let c := pc_3 8 (pc_2 8 (pc_1 8 n)); let d := c + c / 256; let e := d + d / 65536; (e + e / 4294967296) % 128) = fb_ct (fun i => n.testBit i) 64 ∧ pc_3 8 (pc_2 8 (pc_1 8 n)) < 9 * 256 ^ 7 := by
  rw [(pc_main 8 n h).2.2.2.2]
  have k : ∀ a, a < 256 → pc_b a ≤ 8 := fun a ha => (pc_t3 0 (by omega) a ha).2.2.2
  rw [show 64 = 8 * (7 + 1) from rfl, pc_ct, pc_ct _ 6, pc_ct _ 5, pc_ct _ 4, pc_ct _ 3, pc_ct _ 2, pc_ct _ 1]
  simp only [Nat.mul_one, pc_low, pc_all]
  have b0 := k (n % 256) (Nat.mod_lt _ (by omega))
  have b1 := k (n / 256 % 256) (Nat.mod_lt _ (by omega))
  have b2 := k (n / 256 / 256 % 256) (Nat.mod_lt _ (by omega))
  have b3 := k (n / 256 / 256 / 256 % 256) (Nat.mod_lt _ (by omega))
  have b4 := k (n / 256 / 256 / 256 / 256 % 256) (Nat.mod_lt _ (by omega))
  have b5 := k (n / 256 / 256 / 256 / 256 / 256 % 256) (Nat.mod_lt _ (by omega))
  have b6 := k (n / 256 / 256 / 256 / 256 / 256 / 256 % 256) (Nat.mod_lt _ (by omega))
  have b7 := k (n / 256 / 256 / 256 / 256 / 256 / 256 / 256 % 256) (Nat.mod_lt _ (by omega))
  generalize pc_b (n % 256) = c0 at *
  generalize pc_b (n / 256 % 256) = c1 at *
  generalize pc_b (n / 256 / 256 % 256) = c2 at *
  generalize pc_b (n / 256 / 256 / 256 % 256) = c3 at *
  generalize pc_b (n / 256 / 256 / 256 / 256 % 256) = c4 at *
  generalize pc_b (n / 256 / 256 / 256 / 256 / 256 % 256) = c5 at *
  generalize pc_b (n / 256 / 256 / 256 / 256 / 256 / 256 % 256) = c6 at *
  generalize pc_b (n / 256 / 256 / 256 / 256 / 256 / 256 / 256 % 256) = c7 at *
  exact ⟨pc_fold c0 c1 c2 c3 c4 c5 c6 c7 _ _ _ b0 b1 b2 b3 b4 b5 b6 b7 rfl rfl rfl, by omega⟩
def un (x : Int64) : Nat := x.toBitVec.toNat
theorem un_lt (x : Int64) : un x < 256 ^ 8 := x.toBitVec.isLt
theorem un_and (x y : Int64) : un (x &&& y) = (un x &&& un y) := by unfold un; rw [Int64.toBitVec_and, BitVec.toNat_and]
theorem un_add {x y : Int64} (h : un x + un y < 256 ^ 8) : un (x + y) = un x + un y := by
  unfold un at *
  rw [Int64.toBitVec_add, BitVec.toNat_add]
  exact Nat.mod_eq_of_lt h
theorem un_sub {x y : Int64} (h : un y ≤ un x) : un (x - y) = un x - un y := by
  have h1 := un_lt x
  unfold un at *
  rw [Int64.toBitVec_sub, BitVec.toNat_sub]
  show (18446744073709551616 - y.toBitVec.toNat + x.toBitVec.toNat) % 18446744073709551616 = _
  have h1' : x.toBitVec.toNat < 18446744073709551616 := h1
  omega
theorem un_shr {z : Int} (hz : 0 ≤ z ∧ z < 64) (x : Int64) : un ((Int64.toUInt64 x >>> ((Int32.toInt64 (zI z)).toUInt64 &&& Int64.toUInt64 63)).toInt64) = un x / 2 ^ z.toNat := by
  obtain ⟨k, rfl⟩ : ∃ k : Nat, z = k := ⟨z.toNat, by omega⟩
  rw [Int.toNat_natCast]
  show (x.toUInt64 >>> ((zI (k : Int)).toInt64.toUInt64 &&& Int64.toUInt64 63)).toBitVec.toNat = x.toUInt64.toBitVec.toNat / 2 ^ k
  rw [UInt64.toBitVec_shiftRight]
  show (x.toUInt64.toBitVec >>> (((zI (k : Int)).toInt64.toUInt64 &&& Int64.toUInt64 63).toBitVec % 64).toNat).toNat = _
  rw [zs_u k (by omega), BitVec.toNat_ushiftRight, Nat.shiftRight_eq_div_pow]
theorem bc_fin (y : Int64) : (Int64.toInt32 y &&& (127 : Int32)) = zI ((un y % 128 : Nat) : Int) := by
  apply Int32.toBitVec_inj.1
  apply BitVec.eq_of_toNat_eq
  have e : (zI ((un y % 128 : Nat) : Int)).toBitVec.toNat = un y % 128 := by
    show (BitVec.ofInt 32 ((un y % 128 : Nat) : Int)).toNat = _
    rw [BitVec.toNat_ofInt]
    omega
  rw [e, Int32.toBitVec_and, BitVec.toNat_and, Int64.toBitVec_toInt32, BitVec.signExtend_eq_setWidth_of_le _ (by omega), BitVec.toNat_setWidth]
  show (un y % 2 ^ 32 &&& (2 ^ 7 - 1)) = _
  rw [Nat.and_two_pow_sub_one_eq_mod]
  omega
def bc_1 (x : Int64) : Int64 := x - (((Int64.toUInt64 x >>> ((Int32.toInt64 (1 : Int32)).toUInt64 &&& Int64.toUInt64 63)).toInt64) &&& (6148914691236517205 : Int64))
def bc_2 (x : Int64) : Int64 := (x &&& (3689348814741910323 : Int64)) + (((Int64.toUInt64 x >>> ((Int32.toInt64 (2 : Int32)).toUInt64 &&& Int64.toUInt64 63)).toInt64) &&& (3689348814741910323 : Int64))
def bc_3 (x : Int64) : Int64 := (x + ((Int64.toUInt64 x >>> ((Int32.toInt64 (4 : Int32)).toUInt64 &&& Int64.toUInt64 63)).toInt64)) &&& (1085102592571150095 : Int64)
def bc_4 (x : Int64) : Int64 := x + ((Int64.toUInt64 x >>> ((Int32.toInt64 (8 : Int32)).toUInt64 &&& Int64.toUInt64 63)).toInt64)
def bc_5 (x : Int64) : Int64 := x + ((Int64.toUInt64 x >>> ((Int32.toInt64 (16 : Int32)).toUInt64 &&& Int64.toUInt64 63)).toInt64)
def bc_6 (x : Int64) : Int64 := x + ((Int64.toUInt64 x >>> ((Int32.toInt64 (32 : Int32)).toUInt64 &&& Int64.toUInt64 63)).toInt64)
theorem bc_1e (x : Int64) : un (bc_1 x) = pc_1 8 (un x) := by
  have e : un ((((Int64.toUInt64 x >>> ((Int32.toInt64 (1 : Int32)).toUInt64 &&& Int64.toUInt64 63)).toInt64) &&& (6148914691236517205 : Int64))) = (un x / 2 &&& pc_m 85 8) := by
    rw [un_and, zI_lit, un_shr (by omega)]
    rfl
  unfold bc_1
  rw [un_sub (by rw [e]; exact (pc_main 8 _ (un_lt x)).1), e]
  rfl
theorem bc_2e (x : Int64) (h : pc_2 8 (un x) < 256 ^ 8) : un (bc_2 x) = pc_2 8 (un x) := by
  have e : un ((((Int64.toUInt64 x >>> ((Int32.toInt64 (2 : Int32)).toUInt64 &&& Int64.toUInt64 63)).toInt64) &&& (3689348814741910323 : Int64))) = (un x / 4 &&& pc_m 51 8) := by
    rw [un_and, zI_lit, un_shr (by omega)]
    rfl
  have e2 : un (x &&& (3689348814741910323 : Int64)) = (un x &&& pc_m 51 8) := by
    rw [un_and]
    rfl
  unfold bc_2
  rw [un_add (by rw [e, e2]; exact h), e, e2]
  rfl
theorem bc_3e (x : Int64) (h : un x + un x / 16 < 256 ^ 8) : un (bc_3 x) = pc_3 8 (un x) := by
  have e : un (((Int64.toUInt64 x >>> ((Int32.toInt64 (4 : Int32)).toUInt64 &&& Int64.toUInt64 63)).toInt64)) = un x / 16 := by
    rw [zI_lit, un_shr (by omega)]
    rfl
  unfold bc_3
  rw [un_and, un_add (by rw [e]; exact h), e]
  rfl
theorem bc_456 (x : Int64) (h : un x < 9 * 256 ^ 7) : un (bc_6 (bc_5 (bc_4 x))) = (let d := un x + un x / 256; let e := d + d / 65536; e + e / 4294967296) := by
  have e4 : un (bc_4 x) = un x + un x / 256 := by
    have e : un (((Int64.toUInt64 x >>> ((Int32.toInt64 (8 : Int32)).toUInt64 &&& Int64.toUInt64 63)).toInt64)) = un x / 256 := by
      rw [zI_lit, un_shr (by omega)]
      rfl
    unfold bc_4
    rw [un_add (by rw [e]; omega), e]
  have e5 : un (bc_5 (bc_4 x)) = un (bc_4 x) + un (bc_4 x) / 65536 := by
    have e : un (((Int64.toUInt64 (bc_4 x) >>> ((Int32.toInt64 (16 : Int32)).toUInt64 &&& Int64.toUInt64 63)).toInt64)) = un (bc_4 x) / 65536 := by
      rw [zI_lit, un_shr (by omega)]
      rfl
    unfold bc_5
    rw [un_add (by rw [e]; omega), e]
  have e6 : un (bc_6 (bc_5 (bc_4 x))) = un (bc_5 (bc_4 x)) + un (bc_5 (bc_4 x)) / 4294967296 := by
    have e : un (((Int64.toUInt64 (bc_5 (bc_4 x)) >>> ((Int32.toInt64 (32 : Int32)).toUInt64 &&& Int64.toUInt64 63)).toInt64)) = un (bc_5 (bc_4 x)) / 4294967296 := by
      rw [zI_lit, un_shr (by omega)]
      rfl
    unfold bc_6
    rw [un_add (by rw [e]; omega), e]
  rw [e6, e5, e4]
theorem bc_eq (I : tq_PI) (L : tq_PL) (x : Int64) : FJ13_bitCount_95d88 I L x = zI (fb_ct (bb x) 64 : Nat) := by
  show (Int64.toInt32 (bc_6 (bc_5 (bc_4 (bc_3 (bc_2 (bc_1 x)))))) &&& (127 : Int32)) = _
  have m := pc_main 8 (un x) (un_lt x)
  have s := pc_sum (un x) (un_lt x)
  have e2 : un (bc_2 (bc_1 x)) = pc_2 8 (pc_1 8 (un x)) := by rw [bc_2e _ (by rw [bc_1e]; exact m.2.2.2.1), bc_1e]
  have hb : pc_2 8 (pc_1 8 (un x)) + pc_2 8 (pc_1 8 (un x)) / 16 < 256 ^ 8 := pc_b2 _ (un_lt x)
  have e3 : un (bc_3 (bc_2 (bc_1 x))) = pc_3 8 (pc_2 8 (pc_1 8 (un x))) := by rw [bc_3e _ (by rw [e2]; exact hb), e2]
  rw [bc_fin, bc_456 _ (by rw [e3]; exact s.2), e3]
  congr 1
  exact congrArg _ s.1
