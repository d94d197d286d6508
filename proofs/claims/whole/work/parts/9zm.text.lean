/-! TEXT: the reference's tokens. -/
def RTp (J : tq_PI) (B : Nat → Nat) (n : Nat) : Prop := n ≤ 600 ∧ J 136 2 = zI (n : Int) ∧ ∀ i, i < n → B i < 256 ∧ J 137 (10 + i) = zI (B i : Nat)
/-- what a token changes in the reference -/
def FTr (I J : tq_PI) : Prop := ∀ b j, (b ≠ 136 ∨ j < 3 ∨ 8 ≤ j) → J b j = I b j
section RN
variable {I J : tq_PI} {M : tq_PL} {B : Nat → Nat} {n p : Nat}
theorem FTr.rf : FTr I I := fun _ _ _ => rfl
theorem FTr.tr {J K : tq_PI} (h : FTr I J) (k : FTr J K) : FTr I K := fun b j q => (k b j q).trans (h b j q)
theorem FTr.up {j : Nat} {x : Int32} (hj : 3 ≤ j ∧ j < 8) : FTr I (tq_up2 I 136 j x) := fun b i q => by rw [up_n _ _ (by omega)]
theorem RTp.ft {K : tq_PI} (C : RTp J B n) (F : FTr J K) : RTp K B n := ⟨C.1, by rw [F _ _ (by omega)]; exact C.2.1, fun i hi => by rw [F _ _ (by omega)]; exact C.2.2 i hi⟩
theorem r_byte (C : RTp J B n) (hp : p < n) : FX12_byteAt J M 136 (zI (p : Int)) = some (zI (B p : Nat)) := by
  obtain ⟨c1, c2, c3⟩ := C
  obtain ⟨b1, b2⟩ := c3 p hp
  have en : ((10 : Int) + (p : Int)).toNat = 10 + p := by omega
  unfold FX12_byteAt
  rw [c2, if_neg (by rw [zI_le (by omega) (by omega)]; omega), show (10 : Int32) = zI 10 from rfl, zI_add, if_pos ⟨by rw [show (0 : Int32) = zI 0 from rfl, zI_le (by omega) (by omega)]; omega, by rw [zI_lit, zI_lt (by omega) (by omega)]; omega⟩, g0, zI_cl (by omega), en, b2]
theorem r_byte_n (C : RTp J B n) (hp : n ≤ p) (h6 : p ≤ 600) : FX12_byteAt J M 136 (zI (p : Int)) = some (zI (-1)) := by
  have c1 := C.1
  unfold FX12_byteAt
  rw [C.2.1, if_pos (by rw [zI_le (by omega) (by omega)]; omega)]
  rfl
theorem r_letter (I : tq_PI) (L : tq_PL) {x : Int} (hx : -1 ≤ x ∧ x < 256) : FX12_isLetter I L (zI x) = decide (97 ≤ x ∧ x ≤ 122) := by
  unfold FX12_isLetter FX12_isLetter_j16
  by_cases q : x < 97
  · rw [if_pos (by rw [zI_lit, zI_lt (by omega) (by omega)]; omega), decide_eq_false (by omega)]
  · rw [if_neg (by rw [zI_lit, zI_lt (by omega) (by omega)]; omega)]
    by_cases r : 122 < x
    · rw [if_pos (by rw [zI_lit, zI_lt (by omega) (by omega)]; omega), decide_eq_false (by omega)]
    · rw [if_neg (by rw [zI_lit, zI_lt (by omega) (by omega)]; omega), decide_eq_true (by omega)]
theorem r_digit (I : tq_PI) (L : tq_PL) {x : Int} (hx : -1 ≤ x ∧ x < 256) : FX12_isDigit I L (zI x) = decide (48 ≤ x ∧ x ≤ 57) := by
  unfold FX12_isDigit FX12_isDigit_j16
  by_cases q : x < 48
  · rw [if_pos (by rw [zI_lit, zI_lt (by omega) (by omega)]; omega), decide_eq_false (by omega)]
  · rw [if_neg (by rw [zI_lit, zI_lt (by omega) (by omega)]; omega)]
    by_cases r : 57 < x
    · rw [if_pos (by rw [zI_lit, zI_lt (by omega) (by omega)]; omega), decide_eq_false (by omega)]
    · rw [if_neg (by rw [zI_lit, zI_lt (by omega) (by omega)]; omega), decide_eq_true (by omega)]
theorem r_letterN (I : tq_PI) (L : tq_PL) {x : Nat} (hx : x < 256) : FX12_isLetter I L (zI (x : Int)) = isL x := by
  rw [r_letter I L (by omega)]
  unfold isL
  congr 1
  apply propext
  omega
theorem r_digitN (I : tq_PI) (L : tq_PL) {x : Nat} (hx : x < 256) : FX12_isDigit I L (zI (x : Int)) = isDg x := by
  rw [r_digit I L (by omega)]
  unfold isDg
  congr 1
  apply propext
  omega
theorem RTp.up3 (C : RTp J B n) (x : Int32) : RTp (tq_up2 J 136 3 x) B n := C.ft (FTr.up (by omega))
theorem r_s0 (C : RTp J B n) (hp : p ≤ n) (h3 : J 136 3 = zI (p : Int)) : tq_it (fun q : tq_PI => FX12_advance_s0 q M 136) tq_N J = some (tq_up2 J 136 3 (zI (ro isB B n p : Nat))) := by
  have c1 := C.1
  obtain ⟨b, e, rfl⟩ := it_w (f := fun q : tq_PI => FX12_advance_s0 q M 136) (fun a => ∃ q : Nat, q ≤ n ∧ a = tq_up2 J 136 3 (zI (q : Int)) ∧ ro isB B n q = ro isB B n p) (fun a => n - (a 136 3).toNatClampNeg) (Post := fun b => b = tq_up2 J 136 3 (zI (ro isB B n p : Nat))) (fun a ha => by
    obtain ⟨q, hq, rfl, er⟩ := ha
    have C2 := C.up3 (zI (q : Int))
    unfold FX12_advance_s0 FX12_advance_j26L0
    rw [up_s, up_up, z_suc]
    by_cases g : q < n
    · obtain ⟨b1, -⟩ := C.2.2 q g
      rw [r_byte C2 g, obind, obind]
      have fwd : isB (B q) = true → ∃ a2, some (Sum.inl (tq_up2 J 136 3 (zI ((q + 1 : Nat) : Int))) : tq_PI ⊕ tq_PI) = some (.inl a2) ∧ n - (a2 136 3).toNatClampNeg < n - (zI (q : Int)).toNatClampNeg ∧ ∃ q : Nat, q ≤ n ∧ a2 = tq_up2 J 136 3 (zI (q : Int)) ∧ ro isB B n q = ro isB B n p := fun eb => by
        refine ⟨_, rfl, ?_, q + 1, by omega, rfl, by rw [← er, ro_go g eb]⟩
        rw [up_s, zI_cl (by omega), zI_cl (by omega)]
        omega
      by_cases q1 : B q = 10
      · rw [if_pos (by rw [q1]; rfl)]
        exact Or.inl (fwd (by rw [q1]; rfl))
      · rw [if_neg (by rw [zI_lit, zI_eq (by omega) (by omega)]; omega)]
        by_cases q2 : B q = 32
        · rw [if_pos (by rw [q2]; rfl)]
          exact Or.inl (fwd (by rw [q2]; rfl))
        · rw [if_neg (by rw [zI_lit, zI_eq (by omega) (by omega)]; omega)]
          refine Or.inr ⟨_, rfl, ?_⟩
          rw [← er, ro_st]
          unfold isB
          rw [decide_eq_true_eq]
          omega
    · have qn : q = n := by omega
      rw [r_byte_n C2 (by omega) (by omega), obind, obind, if_neg (by decide), if_neg (by decide)]
      refine Or.inr ⟨_, rfl, ?_⟩
      rw [← er, ro_st (fun h => g h.1)]) J (by omega) ⟨p, hp, by rw [← h3, up_id], rfl⟩
  exact e
theorem r_tnum {s : Nat} (C : RTp J B n) (hs : s < n) (h3 : J 136 3 = zI (s : Int)) (h4 : J 136 4 = zI (s : Int)) : ∃ K, tq_it (fun q : tq_PI => FX12_advance_s198 q M 136) tq_N (tq_up2 J 136 6 (0 : Int32)) = some K ∧ FTr J K ∧ K 136 3 = zI (ro isDg B n s : Nat) ∧ K 136 4 = zI (s : Int) ∧ (ro isDg B n s - s ≤ 2 → K 136 6 = zI (nv B s (ro isDg B n s - s) : Nat)) := by
  have c1 := C.1
  have sg := ro_ge (P := isDg) (B := B) (n := n) s
  have sl := ro_le (P := isDg) (B := B) (n := n) (Nat.le_of_lt hs)
  obtain ⟨K, e, F, j8, j9, jn⟩ := it_w (f := fun q : tq_PI => FX12_advance_s198 q M 136) (fun a => ∃ i : Nat, s + i ≤ ro isDg B n s ∧ FTr J a ∧ a 136 3 = zI ((s + i : Nat) : Int) ∧ a 136 4 = zI (s : Int) ∧ ro isDg B n (s + i) = ro isDg B n s ∧ (i ≤ 2 → a 136 6 = zI (nv B s i : Nat))) (fun a => n - (a 136 3).toNatClampNeg) (Post := fun K => FTr J K ∧ K 136 3 = zI (ro isDg B n s : Nat) ∧ K 136 4 = zI (s : Int) ∧ (ro isDg B n s - s ≤ 2 → K 136 6 = zI (nv B s (ro isDg B n s - s) : Nat))) (fun a ha => by
    obtain ⟨i, hi, F, a8, a9, er, an⟩ := ha
    have C2 := C.ft F
    have fin : ¬ (s + i < n ∧ isDg (B (s + i)) = true) → FTr J a ∧ a 136 3 = zI (ro isDg B n s : Nat) ∧ a 136 4 = zI (s : Int) ∧ (ro isDg B n s - s ≤ 2 → a 136 6 = zI (nv B s (ro isDg B n s - s) : Nat)) := fun g => by
      rw [ro_st g] at er
      refine ⟨F, by rw [← er]; exact a8, a9, fun h => ?_⟩
      rw [← er, Nat.add_sub_cancel_left]
      exact an (by omega)
    unfold FX12_advance_s198
    rw [a8, a9]
    by_cases g : s + i < n
    · obtain ⟨b1, -⟩ := C.2.2 _ g
      rw [r_byte C2 g, obind, zlet, r_digitN _ _ b1]
      cases eb : isDg (B (s + i))
      · rw [if_pos (show tq_b false = 0 from rfl)]
        exact Or.inr ⟨_, rfl, fin (by rw [eb]; simp)⟩
      · have er2 : ro isDg B n (s + (i + 1)) = ro isDg B n s := by rw [← er, ro_go g eb]; rfl
        have hi2 : s + (i + 1) ≤ ro isDg B n s := by rw [← er2]; exact ro_ge _
        have go : ∀ a1 : tq_PI, FTr J a1 → a1 136 3 = zI ((s + i : Nat) : Int) → a1 136 4 = zI (s : Int) → (i + 1 ≤ 2 → a1 136 6 = zI (nv B s (i + 1) : Nat)) → ∃ a2, FX12_advance_j248L198 a1 M 136 = some (.inl a2) ∧ n - (a2 136 3).toNatClampNeg < n - (zI ((s + i : Nat) : Int)).toNatClampNeg ∧ ∃ i : Nat, s + i ≤ ro isDg B n s ∧ FTr J a2 ∧ a2 136 3 = zI ((s + i : Nat) : Int) ∧ a2 136 4 = zI (s : Int) ∧ ro isDg B n (s + i) = ro isDg B n s ∧ (i ≤ 2 → a2 136 6 = zI (nv B s i : Nat)) := fun a1 f1 f3 f4 f6 => by
          have e8 : a1 136 3 + (1 : Int32) = zI ((s + (i + 1) : Nat) : Int) := by rw [f3, z_suc]; rfl
          refine ⟨_, rfl, ?_, i + 1, hi2, f1.tr (FTr.up (by omega)), ?_, ?_, er2, fun h => ?_⟩
          · rw [up_s, e8, zI_cl (by omega), zI_cl (by omega)]; omega
          · rw [up_s, e8]
          · rw [up_n _ _ (by omega)]; exact f4
          · rw [up_n _ _ (by omega)]; exact f6 h
        rw [if_neg tb1, zI_sub]
        by_cases g2 : 2 ≤ i
        · rw [if_pos (by rw [zI_lit, zI_le (by omega) (by omega)]; omega)]
          exact Or.inl (go a F a8 a9 (fun h => by omega))
        · rw [if_neg (by rw [zI_lit, zI_le (by omega) (by omega)]; omega), obind, an (by omega)]
          have bd : 48 ≤ B (s + i) ∧ B (s + i) ≤ 57 := by unfold isDg at eb; rw [decide_eq_true_eq] at eb; exact eb
          refine Or.inl (go _ (F.tr (FTr.up (by omega))) (by rw [up_n _ _ (by omega)]; exact a8) (by rw [up_n _ _ (by omega)]; exact a9) (fun h => ?_))
          have e1 : nv B s (i + 1) = 10 * nv B s i + (B (s + i) - 48) := rfl
          rw [up_s, e1, zI_lit, zI_lit, zI_mul, zI_add, zI_sub]
          congr 1
          omega
    · have qn : s + i = n := by omega
      rw [r_byte_n C2 (by omega) (by omega), obind, zlet, r_digit _ _ (by omega), decide_eq_false (by omega), if_pos (show tq_b false = 0 from rfl)]
      exact Or.inr ⟨_, rfl, fin (fun h => g h.1)⟩) (tq_up2 J 136 6 (0 : Int32)) (by omega) ⟨0, sg, FTr.up (by omega), by rw [up_n _ _ (by omega)]; exact h3, by rw [up_n _ _ (by omega)]; exact h4, rfl, fun _ => by rw [up_s]; rfl⟩
  exact ⟨K, e, F, j8, j9, jn⟩
end RN
