/-! TALKS: the query plain. -/
def rnk (m : Nat) (tw : Nat → Nat) (j : Nat) : Nat := 1 + fb_ct (fun t => decide (tw j < tw t ∨ (tw t = tw j ∧ t < j))) m
section TA
variable {I : tq_PI} {L : tq_PL} {i o m : Nat} {tw : Nat → Nat} {A : Nat → Int32}
theorem c_often (hi : i < 2) (D : TD I (16 + 10 * i) A o m tw) {k : Nat} (hk : k < m) (L : tq_PL) : FX9_oftenAt I L (16 + 10 * i) (zI (k : Int)) = some (zI (tw k : Nat)) := by
  obtain ⟨hm, h0, -, hD⟩ := D
  obtain ⟨d1, d2, d3⟩ := hD k hk
  unfold FX9_oftenAt
  simp (disch := omega) only [zlet, obind, zI_lit, zI_neg, zI_add, zI_sub, zI_mul, zI_div, zI_le, zI_lt, zI_eq, zI_cl, irem, ile_t, ile_f, ilt_t, ilt_f, ieq_t, ieq_f, and_true, true_and, and_false, false_and, and_self, not_true_eq_false, not_false_eq_true, ↓reduceIte, Int.toNat_natCast, tqb_z, tqb_t, tqb_f, h0, rg_t i hi, d2]
theorem rnk_le {m : Nat} {tw : Nat → Nat} {j : Nat} : rnk m tw j ≤ m + 1 := by
  have := fb_ct_le (fun t => decide (tw j < tw t ∨ (tw t = tw j ∧ t < j))) m
  unfold rnk
  omega
theorem c_rank (hi : i < 2) (D : TD I (16 + 10 * i) A o m tw) {j : Nat} (hj : j < m) (L : tq_PL) : FX9_rankOf I L (16 + 10 * i) (zI (j : Int)) = some (zI (rnk m tw j : Nat)) := by
  have hm := D.1
  have bj := (D.2.2.2 j hj).1
  have ej := c_often hi D hj L
  obtain ⟨b, e, rfl⟩ := it_for (f := fun p : Int32 × Int32 => FX9_rankOf_s18 I L (16 + 10 * i) (zI (j : Int)) p.1 p.2) (fun k (_ : Unit) => (zI ((1 + fb_ct (fun t => decide (tw j < tw t ∨ (tw t = tw j ∧ t < j))) k : Nat) : Int), zI (k : Int))) m (fun _ _ => True) (Post := fun b => b = zI (rnk m tw j : Nat)) (fun k _ hk _ => by
    have ek := c_often hi D hk L
    have bk := (D.2.2.2 k hk).1
    refine Or.inl ⟨(), ?_, trivial⟩
    unfold FX9_rankOf_s18 FX9_rankOf_j57L18 FX9_rankOf_j60L18
    simp only [ek, ej, obind, D.2.1]
    simp (disch := omega) only [zlet, obind, zI_lit, zI_neg, zI_add, zI_sub, zI_mul, zI_div, zI_le, zI_lt, zI_eq, zI_cl, irem, ile_t, ile_f, ilt_t, ilt_f, ieq_t, ieq_f, and_true, true_and, and_false, false_and, and_self, not_true_eq_false, not_false_eq_true, ↓reduceIte, Int.toNat_natCast, tqb_z, tqb_t, tqb_f]
    rw [fb_ct_succ]
    by_cases q : tw j < tw k ∨ (tw k = tw j ∧ k < j)
    · rw [if_pos (decide_eq_true q)]
      by_cases q1 : tw j < tw k
      · rw [if_pos (by omega)]; rfl
      · rw [if_neg (by omega), if_pos (by omega), if_neg (by omega)]; rfl
    · rw [if_neg (show ¬ decide (tw j < tw k ∨ (tw k = tw j ∧ k < j)) = true by rw [decide_eq_true_eq]; exact q), if_neg (show ¬ ((tw j : Nat) : Int) < ((tw k : Nat) : Int) by omega)]
      by_cases q1 : tw k = tw j
      · rw [if_pos (by omega), if_pos (by omega)]; rfl
      · rw [if_neg (by omega)]; rfl) (fun _ _ => ⟨_, by
    unfold FX9_rankOf_s18
    simp only [D.2.1]
    simp (disch := omega) only [zlet, obind, zI_lit, zI_neg, zI_add, zI_sub, zI_mul, zI_div, zI_le, zI_lt, zI_eq, zI_cl, irem, ile_t, ile_f, ilt_t, ilt_f, ieq_t, ieq_f, and_true, true_and, and_false, false_and, and_self, not_true_eq_false, not_false_eq_true, ↓reduceIte, Int.toNat_natCast, tqb_z, tqb_t, tqb_f]
    rfl, rfl⟩) 0 () (by omega) (by omega) trivial
  have e' : tq_it (fun p : Int32 × Int32 => FX9_rankOf_s18 I L (16 + 10 * i) (zI (j : Int)) p.1 p.2) tq_N ((1 : Int32), (0 : Int32)) = some (zI (rnk m tw j : Nat)) := e
  unfold FX9_rankOf
  rw [e', D.2.1]
  simp (disch := omega) only [zlet, obind, zI_lit, zI_neg, zI_add, zI_sub, zI_mul, zI_div, zI_le, zI_lt, zI_eq, zI_cl, irem, ile_t, ile_f, ilt_t, ilt_f, ieq_t, ieq_f, and_true, true_and, and_false, false_and, and_self, not_true_eq_false, not_false_eq_true, ↓reduceIte, Int.toNat_natCast, tqb_z, tqb_t, tqb_f]
theorem c_plain (hi : i < 2) (D : TD I (16 + 10 * i) A o m tw) (L : tq_PL) : FX9_plainBlows I L (16 + 10 * i) = some (zI ((rsm (fun j => rnk m tw j * tw j) m : Nat) : Int)) := by
  have hm := D.1
  obtain ⟨b, e, rfl⟩ := it_for (f := fun p : Int32 × Int32 => FX9_plainBlows_s4 I L (16 + 10 * i) p.1 p.2) (fun k (_ : Unit) => (zI ((rsm (fun j => rnk m tw j * tw j) k : Nat) : Int), zI (k : Int))) m (fun _ _ => True) (Post := fun b => b = zI ((rsm (fun j => rnk m tw j * tw j) m : Nat) : Int)) (fun k _ hk _ => by
    refine Or.inl ⟨(), ?_, trivial⟩
    unfold FX9_plainBlows_s4
    simp only [c_often hi D hk L, c_rank hi D hk L, obind, D.2.1]
    simp (disch := omega) only [zlet, obind, zI_lit, zI_neg, zI_add, zI_sub, zI_mul, zI_div, zI_le, zI_lt, zI_eq, zI_cl, irem, ile_t, ile_f, ilt_t, ilt_f, ieq_t, ieq_f, and_true, true_and, and_false, false_and, and_self, not_true_eq_false, not_false_eq_true, ↓reduceIte, Int.toNat_natCast, tqb_z, tqb_t, tqb_f]
    rw [rsm_s, Int.natCast_add, Int.natCast_mul]
    rfl) (fun _ _ => ⟨_, by
    unfold FX9_plainBlows_s4
    simp only [D.2.1]
    simp (disch := omega) only [zlet, obind, zI_lit, zI_neg, zI_add, zI_sub, zI_mul, zI_div, zI_le, zI_lt, zI_eq, zI_cl, irem, ile_t, ile_f, ilt_t, ilt_f, ieq_t, ieq_f, and_true, true_and, and_false, false_and, and_self, not_true_eq_false, not_false_eq_true, ↓reduceIte, Int.toNat_natCast, tqb_z, tqb_t, tqb_f], rfl⟩) 0 () (by omega) (by omega) trivial
  have e' : tq_it (fun p : Int32 × Int32 => FX9_plainBlows_s4 I L (16 + 10 * i) p.1 p.2) tq_N ((0 : Int32), (0 : Int32)) = some (zI ((rsm (fun j => rnk m tw j * tw j) m : Nat) : Int)) := e
  unfold FX9_plainBlows
  rw [e', obind]
end TA
section TR
variable {I J : tq_PI} {M : tq_PL} {y o m : Nat} {tw : Nat → Nat}
theorem r_ofWord (D : TD I y (J 137) o m tw) (h35 : J 136 35 = zI (o : Int)) (ho : o + 9 ≤ 4016) {k : Nat} (hk : k < m) : FX12_ofWord J M 136 (zI (k : Int)) = some (zI (tw k : Nat)) := by
  have hm := D.1
  obtain ⟨d1, d2, d3⟩ := D.2.2.2 k hk
  have e : ((o : Int) + 1 + (k : Int)).toNat = o + 1 + k := by omega
  unfold FX12_ofWord
  simp (disch := omega) only [zlet, obind, zI_lit, zI_neg, zI_add, zI_sub, zI_mul, zI_div, zI_le, zI_lt, zI_eq, zI_cl, irem, ile_t, ile_f, ilt_t, ilt_f, ieq_t, ieq_f, and_true, true_and, and_false, false_and, and_self, not_true_eq_false, not_false_eq_true, ↓reduceIte, Int.toNat_natCast, tqb_z, tqb_t, tqb_f, h35, g0, e, d3]
theorem r_blows (D : TD I y (J 137) o m tw) (h35 : J 136 35 = zI (o : Int)) (ho : o + 9 ≤ 4016) {j : Nat} (hj : j < m) : FX12_blowsFor J M 136 (zI (j : Int)) = some (zI (rnk m tw j : Nat)) := by
  have hm := D.1
  have bj := (D.2.2.2 j hj).1
  have ej := r_ofWord (M := M) D h35 ho hj
  have en : ((o : Int)).toNat = o := by omega
  obtain ⟨b, e, rfl⟩ := it_for (f := fun p : Int32 × Int32 => FX12_blowsFor_s4 J M 136 (zI (j : Int)) p.1 p.2) (fun k (_ : Unit) => (zI ((1 + fb_ct (fun t => decide (tw j < tw t ∨ (tw t = tw j ∧ t < j))) k : Nat) : Int), zI (k : Int))) m (fun _ _ => True) (Post := fun b => b = zI (rnk m tw j : Nat)) (fun k _ hk _ => by
    have ek := r_ofWord (M := M) D h35 ho hk
    have bk := (D.2.2.2 k hk).1
    refine Or.inl ⟨(), ?_, trivial⟩
    unfold FX12_blowsFor_s4 FX12_blowsFor_j49L4 FX12_blowsFor_j53L4 FX12_blowsFor_j54L4
    simp only [ek, ej, obind, h35, g0]
    simp (disch := omega) only [zlet, obind, zI_lit, zI_neg, zI_add, zI_sub, zI_mul, zI_div, zI_le, zI_lt, zI_eq, zI_cl, irem, ile_t, ile_f, ilt_t, ilt_f, ieq_t, ieq_f, and_true, true_and, and_false, false_and, and_self, not_true_eq_false, not_false_eq_true, ↓reduceIte, Int.toNat_natCast, tqb_z, tqb_t, tqb_f, D.2.2.1]
    rw [fb_ct_succ]
    by_cases q : tw j < tw k ∨ (tw k = tw j ∧ k < j)
    · rw [if_pos (decide_eq_true q)]
      by_cases q1 : tw j < tw k
      · rw [if_pos (by omega)]; rfl
      · rw [if_neg (by omega), if_pos (by omega), if_neg (by omega)]; rfl
    · rw [if_neg (show ¬ decide (tw j < tw k ∨ (tw k = tw j ∧ k < j)) = true by rw [decide_eq_true_eq]; exact q), if_neg (show ¬ ((tw j : Nat) : Int) < ((tw k : Nat) : Int) by omega)]
      by_cases q1 : tw k = tw j
      · rw [if_pos (by omega), if_pos (by omega)]; rfl
      · rw [if_neg (by omega)]; rfl) (fun _ _ => ⟨_, by
    unfold FX12_blowsFor_s4
    simp only [h35, g0]
    simp (disch := omega) only [zlet, obind, zI_lit, zI_neg, zI_add, zI_sub, zI_mul, zI_div, zI_le, zI_lt, zI_eq, zI_cl, irem, ile_t, ile_f, ilt_t, ilt_f, ieq_t, ieq_f, and_true, true_and, and_false, false_and, and_self, not_true_eq_false, not_false_eq_true, ↓reduceIte, Int.toNat_natCast, tqb_z, tqb_t, tqb_f, D.2.2.1]
    rfl, rfl⟩) 0 () (by omega) (by omega) trivial
  have e' : tq_it (fun p : Int32 × Int32 => FX12_blowsFor_s4 J M 136 (zI (j : Int)) p.1 p.2) tq_N ((1 : Int32), (0 : Int32)) = some (zI (rnk m tw j : Nat)) := e
  unfold FX12_blowsFor
  rw [e', obind]
theorem r_plain (D : TD I y (J 137) o m tw) (h35 : J 136 35 = zI (o : Int)) (ho : o + 9 ≤ 4016) : tq_it (fun p : Int32 × Int32 => FX12_plain_s59 J M 136 p.1 p.2) tq_N ((0 : Int32), (0 : Int32)) = some (zI ((rsm (fun j => rnk m tw j * tw j) m : Nat) : Int)) := by
  have hm := D.1
  obtain ⟨b, e, rfl⟩ := it_for (f := fun p : Int32 × Int32 => FX12_plain_s59 J M 136 p.1 p.2) (fun k (_ : Unit) => (zI ((rsm (fun j => rnk m tw j * tw j) k : Nat) : Int), zI (k : Int))) m (fun _ _ => True) (Post := fun b => b = zI ((rsm (fun j => rnk m tw j * tw j) m : Nat) : Int)) (fun k _ hk _ => by
    refine Or.inl ⟨(), ?_, trivial⟩
    unfold FX12_plain_s59
    simp only [r_ofWord (M := M) D h35 ho hk, r_blows (M := M) D h35 ho hk, obind, h35, g0]
    simp (disch := omega) only [zlet, obind, zI_lit, zI_neg, zI_add, zI_sub, zI_mul, zI_div, zI_le, zI_lt, zI_eq, zI_cl, irem, ile_t, ile_f, ilt_t, ilt_f, ieq_t, ieq_f, and_true, true_and, and_false, false_and, and_self, not_true_eq_false, not_false_eq_true, ↓reduceIte, Int.toNat_natCast, tqb_z, tqb_t, tqb_f, D.2.2.1]
    rw [rsm_s, Int.natCast_add, Int.natCast_mul]
    rfl) (fun _ _ => ⟨_, by
    unfold FX12_plain_s59
    simp only [h35, g0]
    simp (disch := omega) only [zlet, obind, zI_lit, zI_neg, zI_add, zI_sub, zI_mul, zI_div, zI_le, zI_lt, zI_eq, zI_cl, irem, ile_t, ile_f, ilt_t, ilt_f, ieq_t, ieq_f, and_true, true_and, and_false, false_and, and_self, not_true_eq_false, not_false_eq_true, ↓reduceIte, Int.toNat_natCast, tqb_z, tqb_t, tqb_f, D.2.2.1], rfl⟩) 0 () (by omega) (by omega) trivial
  exact e
end TR
theorem q_plain {I : tq_PI} {L : tq_PL} (Y : TV I 1 0) (y u : Int32) : ∃ v, FX11_plain I L 0 y u = some v ∧ ∀ J M, J 137 = I 137 → ∃ J2, FX12_plain J M 136 y u = some (v, J2) ∧ FP J J2 := by
  rcases talk_case Y y with q | ⟨j, n, tw, hj, rfl, ey, D, ry⟩
  · refine ⟨-1, by unfold FX11_plain; rw [rg_0_0, (q L).1, obind]; rfl, fun J M hJ => ⟨J, by unfold FX12_plain; rw [(q L).2 J M hJ, obind]; rfl, FP.rf⟩⟩
  · obtain ⟨z, hz, rfl⟩ := zI_of u
    have hn := D.1
    have P : ∀ J : tq_PI, FP J (tq_up2 J 136 35 (zI ((986 + 9 * j : Nat) : Int))) := fun J => (FC.up (b := 136)).fp (by unfold psl; omega)
    have e37 : ∀ J : tq_PI, J 137 = I 137 → (tq_up2 J 136 35 (zI ((986 + 9 * j : Nat) : Int))) 137 = I 137 := fun J hJ => by rw [P J 137 (by unfold psl; omega), hJ]
    have D' : ∀ J : tq_PI, J 137 = I 137 → TD I (16 + 10 * j) ((tq_up2 J 136 35 (zI ((986 + 9 * j : Nat) : Int))) 137) (986 + 9 * j) n tw := fun J hJ => by
      rw [e37 J hJ]; exact D
    have mO : ∀ J : tq_PI, J 137 = I 137 → (tq_up2 J 136 35 (zI ((986 + 9 * j : Nat) : Int))) 137 (986 + 9 * j) = zI (n : Int) := fun J hJ => by rw [e37 J hJ]; exact D.2.2.1
    have em : (zI z = (-1 : Int32)) = (z = -1) := by rw [show (-1 : Int32) = zI (-1) from rfl, zI_eq (by omega) (by omega)]
    unfold FX11_plain
    simp only [rg_0_0, ey L, obind, oel_s, em]
    by_cases q1 : z = -1
    · refine ⟨zI ((rsm (fun j => rnk n tw j * tw j) n : Nat) : Int), by rw [if_pos q1, c_plain hj D L, obind], fun J M hJ => ⟨_, ?_, P J⟩⟩
      obtain ⟨r1, r2⟩ := ry J M hJ
      unfold FX12_plain
      rw [r1, obind, if_neg tb1, zlet, r2]
      rw [if_pos (by rw [em]; exact q1), r_plain (M := M) (D' J hJ) (up_s _ _ _ _) (by omega), obind]
    · rw [if_neg q1]
      by_cases q2 : 0 ≤ z ∧ z < n
      · obtain ⟨k, rfl⟩ : ∃ k : Nat, z = k := ⟨z.toNat, by omega⟩
        refine ⟨zI (rnk n tw k : Nat), by rw [c_rank hj D (by omega) L, obind], fun J M hJ => ⟨_, ?_, P J⟩⟩
        obtain ⟨r1, r2⟩ := ry J M hJ
        unfold FX12_plain
        rw [r1, obind, if_neg tb1, zlet, r2]
        rw [if_neg (by rw [em]; exact q1), r_blows (M := M) (D' J hJ) (up_s _ _ _ _) (by omega) (by omega)]
        simp (disch := omega) only [up_s, g0, mO J hJ, zlet, obind, zI_lit, zI_neg, zI_add, zI_sub, zI_mul, zI_div, zI_le, zI_lt, zI_eq, zI_cl, irem, ile_t, ile_f, ilt_t, ilt_f, ieq_t, ieq_f, and_true, true_and, and_false, false_and, and_self, not_true_eq_false, not_false_eq_true, ↓reduceIte, Int.toNat_natCast, tqb_z, tqb_t, tqb_f, r_isIn, decide_eq_false_iff_not, decide_eq_true_eq, oel_s, oel_n, Bool.false_eq_true, btf, eq_self, or_self, or_false, false_or, or_true, true_or, iand_f, iandl_f, ior_t, ior_f]
      · refine ⟨-1, ?_, fun J M hJ => ⟨_, ?_, P J⟩⟩
        · unfold FX9_rankOf FX9_rankOf_j12
          rw [D.2.1]
          by_cases q3 : z < 0
          · simp (disch := omega) only [zlet, obind, zI_lit, zI_neg, zI_add, zI_sub, zI_mul, zI_div, zI_le, zI_lt, zI_eq, zI_cl, irem, ile_t, ile_f, ilt_t, ilt_f, ieq_t, ieq_f, and_true, true_and, and_false, false_and, and_self, not_true_eq_false, not_false_eq_true, ↓reduceIte, Int.toNat_natCast, tqb_z, tqb_t, tqb_f, r_isIn, decide_eq_false_iff_not, decide_eq_true_eq, oel_s, oel_n, Bool.false_eq_true, btf, eq_self, or_self, or_false, false_or, or_true, true_or, iand_f, iandl_f, ior_t, ior_f]
          · simp (disch := omega) only [zlet, obind, zI_lit, zI_neg, zI_add, zI_sub, zI_mul, zI_div, zI_le, zI_lt, zI_eq, zI_cl, irem, ile_t, ile_f, ilt_t, ilt_f, ieq_t, ieq_f, and_true, true_and, and_false, false_and, and_self, not_true_eq_false, not_false_eq_true, ↓reduceIte, Int.toNat_natCast, tqb_z, tqb_t, tqb_f, r_isIn, decide_eq_false_iff_not, decide_eq_true_eq, oel_s, oel_n, Bool.false_eq_true, btf, eq_self, or_self, or_false, false_or, or_true, true_or, iand_f, iandl_f, ior_t, ior_f]
        · obtain ⟨r1, r2⟩ := ry J M hJ
          unfold FX12_plain
          rw [r1, obind, if_neg tb1, zlet, r2]
          rw [if_neg (by rw [em]; exact q1)]
          by_cases q3 : z < 0
          · simp (disch := omega) only [up_s, g0, mO J hJ, zlet, obind, zI_lit, zI_neg, zI_add, zI_sub, zI_mul, zI_div, zI_le, zI_lt, zI_eq, zI_cl, irem, ile_t, ile_f, ilt_t, ilt_f, ieq_t, ieq_f, and_true, true_and, and_false, false_and, and_self, not_true_eq_false, not_false_eq_true, ↓reduceIte, Int.toNat_natCast, tqb_z, tqb_t, tqb_f, r_isIn, decide_eq_false_iff_not, decide_eq_true_eq, oel_s, oel_n, Bool.false_eq_true, btf, eq_self, or_self, or_false, false_or, or_true, true_or, iand_f, iandl_f, ior_t, ior_f]
          · simp (disch := omega) only [up_s, g0, mO J hJ, zlet, obind, zI_lit, zI_neg, zI_add, zI_sub, zI_mul, zI_div, zI_le, zI_lt, zI_eq, zI_cl, irem, ile_t, ile_f, ilt_t, ilt_f, ieq_t, ieq_f, and_true, true_and, and_false, false_and, and_self, not_true_eq_false, not_false_eq_true, ↓reduceIte, Int.toNat_natCast, tqb_z, tqb_t, tqb_f, r_isIn, decide_eq_false_iff_not, decide_eq_true_eq, oel_s, oel_n, Bool.false_eq_true, btf, eq_self, or_self, or_false, false_or, or_true, true_or, iand_f, iandl_f, ior_t, ior_f]
