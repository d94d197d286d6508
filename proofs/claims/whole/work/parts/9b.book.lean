/-! BOOKS: a byte of a number, as the class and as the reference keep it. -/
theorem zs_r : ∀ k : Nat, k < 32 → ((zI (k : Int) &&& 31).toBitVec.smod 32).toNat = k := by decide +kernel
theorem zs_v : ∀ k : Nat, k < 32 → ((Int32.toUInt32 (zI (k : Int)) &&& Int32.toUInt32 31).toBitVec % 32).toNat = k := by decide +kernel
def byt (a : Int32) (k : Nat) : Nat := a.toBitVec.toNat / 2 ^ k % 256
theorem byt_lt (a : Int32) (k : Nat) : byt a k < 256 := Nat.mod_lt _ (by decide)
theorem byt_bit (a : Int32) {k i : Nat} : (byt a k).testBit i = (decide (i < 8) && a.toBitVec.getLsbD (k + i)) := by
  unfold byt
  rw [show (256 : Nat) = 2 ^ 8 from rfl, Nat.testBit_mod_two_pow, Nat.testBit_div_two_pow, BitVec.getLsbD, Nat.add_comm k i]
theorem bv255 : ∀ i, i < 32 → (255 : Int32).toBitVec.getLsbD i = decide (i < 8) := by decide
theorem r_byt (a : Int32) {k : Nat} (hk : k ≤ 24) : (a >>> (zI (k : Int) &&& 31)) &&& (255 : Int32) = zI (byt a k : Nat) := by
  apply Int32.toBitVec_inj.1
  apply BitVec.eq_of_getLsbD_eq
  intro i hi
  have e : (zI ((byt a k : Nat) : Int)).toBitVec.getLsbD i = (byt a k).testBit i := by
    show (BitVec.ofInt 32 ((byt a k : Nat) : Int)).getLsbD i = _
    rw [BitVec.ofInt_natCast, BitVec.getLsbD_ofNat]
    simp [hi]
  rw [e, byt_bit, Int32.toBitVec_and, BitVec.getLsbD_and, Int32.toBitVec_shiftRight, bv255 i hi]
  show ((a.toBitVec.sshiftRight ((zI (k : Int) &&& 31).toBitVec.smod 32).toNat).getLsbD i && _) = _
  rw [zs_r k (by omega), BitVec.getLsbD_sshiftRight]
  by_cases h : i < 8
  · simp [h, show ¬ 32 ≤ i by omega, show k + i < 32 by omega]
  · simp [h]
theorem c_byt (a : Int32) {k : Nat} (hk : k ≤ 24) : Int32.toInt8 ((Int32.toUInt32 a >>> (Int32.toUInt32 (zI (k : Int)) &&& Int32.toUInt32 31)).toInt32) = Int32.toInt8 (zI (byt a k : Nat)) := by
  apply Int8.toBitVec_inj.1
  apply BitVec.eq_of_getLsbD_eq
  intro i hi
  have e : (zI ((byt a k : Nat) : Int)).toBitVec.getLsbD i = (byt a k).testBit i := by
    show (BitVec.ofInt 32 ((byt a k : Nat) : Int)).getLsbD i = _
    rw [BitVec.ofInt_natCast, BitVec.getLsbD_ofNat]
    simp [show i < 32 by omega]
  rw [Int32.toBitVec_toInt8, Int32.toBitVec_toInt8, BitVec.signExtend_eq_setWidth_of_le _ (by omega), BitVec.signExtend_eq_setWidth_of_le _ (by omega), BitVec.getLsbD_setWidth, BitVec.getLsbD_setWidth, e, byt_bit]
  show (decide (i < 8) && (a.toUInt32 >>> (Int32.toUInt32 (zI (k : Int)) &&& Int32.toUInt32 31)).toBitVec.getLsbD i) = _
  rw [UInt32.toBitVec_shiftRight]
  show (decide (i < 8) && (a.toUInt32.toBitVec >>> ((Int32.toUInt32 (zI (k : Int)) &&& Int32.toUInt32 31).toBitVec % 32).toNat).getLsbD i) = _
  rw [zs_v k (by omega), BitVec.getLsbD_ushiftRight]
  simp [hi]
theorem rg_1_0 : tq_rg 1 0 = 2 := by decide +kernel
/-- the tape of a book in both -/
def TP (I : tq_PI) (b o : Nat) : Prop := ∃ n : Nat, n ≤ 600 ∧ I b 1 = zI (n : Int) ∧ I 137 (o + 4) = zI (n : Int) ∧ ∀ i, i < n → ∃ x : Nat, x < 256 ∧ I 137 (o + 10 + i) = zI (x : Int) ∧ I (b + 1) i = (zI (x : Int)).toInt8.toInt32
