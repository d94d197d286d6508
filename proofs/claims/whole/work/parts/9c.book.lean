/-! BOOKS: feed. -/
def AP (I J : tq_PI) (n t : Nat) (w : Nat → Nat) : Prop := J 1 1 = zI ((n + t : Nat) : Int) ∧ (∀ i, i < t → J 2 (n + i) = (zI (w i : Nat)).toInt8.toInt32) ∧ (∀ c, c ≠ 1 → c ≠ 2 → J c = I c) ∧ (∀ j, j ≠ 1 → J 1 j = I 1 j) ∧ ∀ j, j < n → J 2 j = I 2 j
theorem AP.up {I J : tq_PI} {n t : Nat} {w : Nat → Nat} (A : AP I J n t w) {v : Int32} (hv : v = (zI (w t : Nat)).toInt8.toInt32) : AP I (tq_up2 (tq_up2 J 2 (n + t) v) 1 1 (zI ((n + t + 1 : Nat) : Int))) n (t + 1) w := by
  obtain ⟨a1, a2, a3, a4, a5⟩ := A
  refine ⟨up_s _ _ _ _, fun i hi => ?_, fun c h1 h2 => ?_, fun j hj => ?_, fun j hj => ?_⟩
  · rw [up_n _ _ (by omega)]
    by_cases e : i = t
    · subst e; rw [up_s, hv]
    · rw [up_n _ _ (by omega)]; exact a2 i (by omega)
  · rw [← a3 c h1 h2]
    funext j
    rw [up_n _ _ (by omega), up_n _ _ (by omega)]
  · rw [up_n _ _ (by omega), up_n _ _ (by omega)]; exact a4 j hj
  · rw [up_n _ _ (by omega), up_n _ _ (by omega)]; exact a5 j hj
theorem i8_id : ∀ x : Int8, x.toInt32.toInt8 = x := fun x => by
  rw [Int8.toInt8_toInt32]
theorem c_append {I J : tq_PI} (L : tq_PL) {n t : Nat} {w : Nat → Nat} (A : AP I J n t w) (ht : n + t + 4 ≤ 600) {a : Int32} (hw : ∀ i, i < 4 → w (t + i) = byt a (24 - 8 * i)) : ∃ K, FX0_append J L 1 a = some K ∧ AP I K n (t + 4) w := by
  obtain ⟨K, e, A2⟩ := it_for (f := fun p : Int32 × tq_PI => FX0_append_s3 p.2 L 1 a p.1) (fun k (s : tq_PI) => (zI (24 - 8 * (k : Int)), s)) 4 (fun k K => AP I K n (t + k) w) (Post := fun K => AP I K n (t + 4) w) (fun k K hk hK => by
    have e1 := hK.1
    have ek : zI (24 - 8 * (k : Int)) = zI ((24 - 8 * k : Nat) : Int) := by congr 1; omega
    have en : ((n + (t + k) : Nat) : Int).toNat = n + (t + k) := by omega
    have up := hK.up (v := (((Int32.toInt8 ((Int32.toUInt32 a >>> (Int32.toUInt32 (zI ((24 - 8 * k : Nat) : Int)) &&& Int32.toUInt32 31)).toInt32)).toInt32)).toInt8.toInt32) (by rw [i8_id, c_byt a (by omega), hw k hk])
    refine Or.inl ⟨_, ?_, up⟩
    unfold FX0_append_s3 FX0_append_j49L3
    dsimp only
    rw [ek]
    have c0 : ¬ zI ((24 - 8 * k : Nat) : Int) < 0 := by rw [show (0 : Int32) = zI 0 from rfl, zI_lt (by omega) (by omega)]; omega
    have c1 : ¬ K 1 1 < 0 := by rw [e1, show (0 : Int32) = zI 0 from rfl, zI_lt (by omega) (by omega)]; omega
    have c2 : ¬ (600 : Int32) ≤ K 1 1 := by rw [e1, show (600 : Int32) = zI 600 from rfl, zI_le (by omega) (by omega)]; omega
    have c3 : (0 : Int32) ≤ K 1 1 ∧ K 1 1 < 600 := ⟨by rw [e1, show (0 : Int32) = zI 0 from rfl, zI_le (by omega) (by omega)]; omega, by rw [e1, show (600 : Int32) = zI 600 from rfl, zI_lt (by omega) (by omega)]; omega⟩
    rw [if_neg c0, if_neg c1, if_neg c2, if_pos c3, rg_1_0, up_n _ _ (by omega), e1, zI_cl (by omega), en]
    have e9 : zI ((24 - 8 * k : Nat) : Int) + (-8) = zI (24 - 8 * ((k + 1 : Nat) : Int)) := by
      rw [show (-8 : Int32) = zI (-8) from rfl, zI_add]; congr 1; omega
    rw [e9, show (1 : Int32) = zI 1 from rfl, zI_add]
    rfl) (fun K hK => ⟨K, by
    unfold FX0_append_s3
    dsimp only
    rw [if_pos]
    decide, hK⟩) 0 J (by omega) (by omega) A
  refine ⟨K, ?_, A2⟩
  have e' : tq_it (fun p : Int32 × tq_PI => FX0_append_s3 p.2 L 1 a p.1) tq_N ((24 : Int32), J) = some K := e
  unfold FX0_append
  rw [e', obind]
/-- the byte that a feed puts i-th -/
def fdb (a b c d e : Int32) (i : Nat) : Nat := byt (if i < 4 then a else if i < 8 then b else if i < 12 then c else if i < 16 then d else e) (24 - 8 * (i % 4))
theorem c_feed {I : tq_PI} {L : tq_PL} {n : Nat} (h1 : I 1 1 = zI (n : Int)) (hn : n ≤ 580) (a b c d e : Int32) : ∃ K, FX11_feed I L 0 a b c d e = some (zI ((n + 20 : Nat) : Int), K) ∧ AP I K n 20 (fdb a b c d e) := by
  have A0 : AP I I n 0 (fdb a b c d e) := ⟨h1, fun i hi => by omega, fun _ _ _ => rfl, fun _ _ => rfl, fun _ _ => rfl⟩
  obtain ⟨K1, e1, A1⟩ := c_append L A0 (by omega) (a := a) (fun i hi => by unfold fdb; rw [if_pos (by omega), show (0 + i) % 4 = i by omega])
  obtain ⟨K2, e2, A2⟩ := c_append L A1 (by omega) (a := b) (fun i hi => by unfold fdb; rw [if_neg (by omega), if_pos (by omega), show (0 + 4 + i) % 4 = i by omega])
  obtain ⟨K3, e3, A3⟩ := c_append L A2 (by omega) (a := c) (fun i hi => by unfold fdb; rw [if_neg (by omega), if_neg (by omega), if_pos (by omega), show (0 + 4 + 4 + i) % 4 = i by omega])
  obtain ⟨K4, e4, A4⟩ := c_append L A3 (by omega) (a := d) (fun i hi => by unfold fdb; rw [if_neg (by omega), if_neg (by omega), if_neg (by omega), if_pos (by omega), show (0 + 4 + 4 + 4 + i) % 4 = i by omega])
  obtain ⟨K5, e5, A5⟩ := c_append L A4 (by omega) (a := e) (fun i hi => by unfold fdb; rw [if_neg (by omega), if_neg (by omega), if_neg (by omega), if_neg (by omega), show (0 + 4 + 4 + 4 + 4 + i) % 4 = i by omega])
  refine ⟨K5, ?_, A5⟩
  have c : I 1 1 ≤ (580 : Int32) := by rw [h1, show (580 : Int32) = zI 580 from rfl, zI_le (by omega) (by omega)]; omega
  unfold FX11_feed
  rw [rg_0_0, if_pos c, e1, obind, e2, obind, e3, obind, e4, obind, e5, obind, A5.1]
def AR (I J : tq_PI) (n t : Nat) (w : Nat → Nat) : Prop := J 137 4 = zI ((n + t : Nat) : Int) ∧ (∀ i, i < t → J 137 (10 + n + i) = zI (w i : Nat)) ∧ (∀ c, c ≠ 137 → J c = I c) ∧ ∀ j, j ≠ 4 → (j < 10 + n ∨ 10 + n + t ≤ j) → J 137 j = I 137 j
theorem AR.up {I J : tq_PI} {n t : Nat} {w : Nat → Nat} (A : AR I J n t w) {v : Int32} (hv : v = zI (w t : Nat)) : AR I (tq_up2 (tq_up2 J 137 (10 + n + t) v) 137 4 (zI ((n + t + 1 : Nat) : Int))) n (t + 1) w := by
  obtain ⟨a1, a2, a3, a4⟩ := A
  refine ⟨up_s _ _ _ _, fun i hi => ?_, fun c h1 => ?_, fun j hj h => ?_⟩
  · rw [up_n _ _ (by omega)]
    by_cases e : i = t
    · subst e; rw [up_s, hv]
    · rw [up_n _ _ (by omega)]; exact a2 i (by omega)
  · rw [← a3 c h1]
    funext j
    rw [up_n _ _ (by omega), up_n _ _ (by omega)]
  · rw [up_n _ _ (by omega), up_n _ _ (by omega)]; exact a4 j hj (by omega)
theorem r_feedb {I J : tq_PI} {M : tq_PL} {n t : Nat} {w : Nat → Nat} (A : AR I J n t w) (ht : n + t < 600) (t20 : t < 20) (a b c d e x : Int32) (hx : w t = byt x (24 - 8 * (t % 4))) : ∃ K, FX12_feed_j73L20 J M 136 a b c d e (zI (t : Int)) x = some (.inl (zI ((t + 1 : Nat) : Int), K)) ∧ AR I K n (t + 1) w := by
  have e1 := A.1
  have e4 : ((4 : Int32)).toNatClampNeg = 4 := by decide
  have c4 : (0 : Int32) ≤ 4 ∧ (4 : Int32) < 4016 := by decide
  have n4 : ¬ (4 : Int32) = 0 := by decide
  have er : zI (t : Int) - zI (t : Int) / (4 : Int32) * (4 : Int32) = zI ((t % 4 : Nat) : Int) := by
    rw [show (4 : Int32) = zI 4 from rfl, zI_rem (by omega) (by omega)]; congr 1
  have es : (24 : Int32) - (8 : Int32) * zI ((t % 4 : Nat) : Int) = zI ((24 - 8 * (t % 4) : Nat) : Int) := by
    rw [show (24 : Int32) = zI 24 from rfl, show (8 : Int32) = zI 8 from rfl, zI_mul, zI_sub]; congr 1; omega
  have e10 : (10 : Int32) + zI ((n + t : Nat) : Int) = zI ((10 + n + t : Nat) : Int) := by
    rw [show (10 : Int32) = zI 10 from rfl, zI_add]; congr 1; omega
  have en : ((10 + n + t : Nat) : Int).toNat = 10 + n + t := by omega
  have c5 : (0 : Int32) ≤ zI ((10 + n + t : Nat) : Int) ∧ zI ((10 + n + t : Nat) : Int) < 4016 := ⟨by rw [show (0 : Int32) = zI 0 from rfl, zI_le (by omega) (by omega)]; omega, by rw [show (4016 : Int32) = zI 4016 from rfl, zI_lt (by omega) (by omega)]; omega⟩
  refine ⟨_, ?_, A.up (v := zI ((byt x (24 - 8 * (t % 4)) : Nat) : Int)) (by rw [hx])⟩
  unfold FX12_feed_j73L20
  simp only [e4, if_pos c4, n4, not_false_eq_true, if_true, g0, e1, er, es, e10]
  rw [if_pos c5, r_byt x (by omega), zI_cl (by omega), en, up_n _ _ (by omega), e1, show (1 : Int32) = zI 1 from rfl, zI_add, zI_add]
  rfl
