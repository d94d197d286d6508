/-! LOGS: the walk over what fits, by both. -/
def Kth (F : Nat → Bool) (n : Nat) (z v : Int) : Prop := (∃ c : Nat, c < n ∧ F c = true ∧ (fb_ct F c : Int) = z ∧ v = c) ∨ (v = -2 ∧ ∀ c, c < n → F c = true → (fb_ct F c : Int) ≠ z)
theorem Kth_one {F : Nat → Bool} {n : Nat} {z v u : Int} (a : Kth F n z v) (b : Kth F n z u) : v = u := by
  rcases a with ⟨c, c1, c2, c3, rfl⟩ | ⟨rfl, a⟩
  · rcases b with ⟨d, d1, d2, d3, rfl⟩ | ⟨rfl, b⟩
    · rw [fb_ct_kth_one c2 d2 (by omega)]
    · exact absurd c3 (b c c1 c2)
  · rcases b with ⟨d, d1, d2, d3, rfl⟩ | ⟨rfl, b⟩
    · exact absurd d3 (a d d1 d2)
    · rfl
theorem bb_bit {x : Int64} {p : Nat} (hp : p < 64) : (x &&& ((1 : Int64) <<< (Int32.toInt64 (zI (p : Int)) &&& 63)) = 0) = (bb x p = false) := by
  apply propext
  rw [bb_eq0]
  constructor
  · intro h
    have := h p hp
    rw [bb_and, bb_one (by omega), Int.toNat_natCast, decide_eq_true rfl, Bool.and_true] at this
    exact this
  · intro h r hr
    rw [bb_and, bb_one (by omega), Int.toNat_natCast]
    by_cases e : r = p
    · rw [e, h]; rfl
    · rw [decide_eq_false e, Bool.and_false]
theorem c_fitAt {I : tq_PI} {M : tq_PL} {F : Nat → Bool} (G : GA M F) {z : Int} (hz : 0 ≤ z ∧ z < 2147483648) : ∃ v, FX2_fitAt I M 49 (zI z) = some (zI v) ∧ Kth F n432 z v := by
  have nn := n432_e
  have hl := fun c => fb_ct_le F c
  generalize n432 = N at *
  obtain ⟨b, e, v, hb, hv⟩ := it_for (f := fun p : Int32 × Int32 => FX2_fitAt_s4 I M 49 (zI z) p.1 p.2) (fun c (_ : Unit) => (zI ((fb_ct F c : Nat) : Int), zI (c : Int))) N (fun n _ => ∀ c, c < n → F c = true → (fb_ct F c : Int) ≠ z) (Post := fun b => ∃ v, b.elim (fun _ => some (-2 : Int32)) (fun t => some t) = some (zI v) ∧ Kth F N z v) (fun c _ hc h => by
    have e1 : zI (c : Int) / zI 9 = zI ((c / 9 : Nat) : Int) := by rw [zI_div (by omega) (by omega)]; congr 1
    have e2 : zI (c : Int) - zI ((c / 9 : Nat) : Int) * zI 9 = zI ((c % 9 : Nat) : Int) := by rw [← e1, zI_rem (by omega) (by omega)]; congr 1
    have h9 : (9 : Int32) = zI 9 := rfl
    have n9 : ¬ zI 9 = 0 := by decide
    have es : (((c % 9 : Nat) : Int) + 1).toNat = c % 9 + 1 := by omega
    have hg := G (c % 9) (by omega) (c / 9)
    rw [decide_eq_true (by omega), Bool.true_and, show 9 * (c / 9) + c % 9 = c by omega] at hg
    have hm : c % 9 < 9 := by omega
    have hcl := hl c
    unfold FX2_fitAt_s4 FX2_fitAt_j62L4
    simp only [h9, n9, not_false_eq_true, if_true, e1, e2]
    generalize c % 9 = s at *
    simp (disch := omega) only [zlet, obind, zI_lit, zI_neg, zI_add, zI_sub, zI_mul, zI_div, zI_le, zI_lt, zI_eq, zI_cl, irem, ile_t, ile_f, ilt_t, ilt_f, ieq_t, ieq_f, and_true, true_and, and_false, false_and, and_self, not_true_eq_false, not_false_eq_true, ↓reduceIte, Int.toNat_natCast, tqb_z, tqb_t, tqb_f, rg_49_0, lgz, es, bb_bit, hg]
    cases hF : F c with
    | false =>
      rw [if_pos rfl]
      refine Or.inl ⟨(), ?_, fun c2 h2 h3 => ?_⟩
      · rw [fb_ct_succ, hF]; rfl
      · by_cases e : c2 = c
        · rw [e, hF] at h3; cases h3
        · exact h c2 (by omega) h3
    | true =>
      rw [if_neg (by simp)]
      by_cases q : (fb_ct F c : Int) = z
      · rw [if_pos q]
        exact Or.inr ⟨_, rfl, (c : Int), rfl, Or.inl ⟨c, hc, hF, q, rfl⟩⟩
      · rw [if_neg q]
        refine Or.inl ⟨(), ?_, fun c2 h2 h3 => ?_⟩
        · rw [fb_ct_succ, hF]; rfl
        · by_cases e : c2 = c
          · rw [e]; exact q
          · exact h c2 (by omega) h3) (fun _ h => by
    unfold FX2_fitAt_s4
    simp (disch := omega) only [zlet, obind, zI_lit, zI_neg, zI_add, zI_sub, zI_mul, zI_div, zI_le, zI_lt, zI_eq, zI_cl, irem, ile_t, ile_f, ilt_t, ilt_f, ieq_t, ieq_f, and_true, true_and, and_false, false_and, and_self, not_true_eq_false, not_false_eq_true, ↓reduceIte, Int.toNat_natCast, tqb_z, tqb_t, tqb_f]
    exact ⟨_, rfl, -2, rfl, Or.inr ⟨rfl, h⟩⟩) 0 () (by omega) (by omega) (fun c hc => by omega)
  refine ⟨v, ?_, hv⟩
  have e' : tq_it (fun p : Int32 × Int32 => FX2_fitAt_s4 I M 49 (zI z) p.1 p.2) tq_N ((0 : Int32), (0 : Int32)) = some b := e
  unfold FX2_fitAt
  rw [e', obind]
  exact hb
section FT
variable {J : tq_PI} {M : tq_PL} {c n : Nat} {u v : Int} {a2 : Int32}
theorem r_j97 (hc : c < 432) (hn : n ≤ 432) (hv : -2 ≤ v ∧ v < 1000) (b0 : Int32) : FX12_fits_j97L36 J M 136 a2 (zI (n : Int)) (zI v) (zI (c : Int)) b0 = some (.inl (zI ((n + 1 : Nat) : Int), b0, zI (if n = 0 ∨ v = ((c % 9 + 1 : Nat) : Int) then ((c % 9 + 1 : Nat) : Int) else -2), zI ((c + 1 : Nat) : Int))) := by
  have e1 : zI (c : Int) - zI (c : Int) / zI 9 * zI 9 = zI ((c % 9 : Nat) : Int) := by rw [zI_rem (by omega) (by omega)]; congr 1
  have h9 : (9 : Int32) = zI 9 := rfl
  have n9 : ¬ zI 9 = 0 := by decide
  have hm : c % 9 < 9 := by omega
  unfold FX12_fits_j97L36 FX12_fits_j115L36 FX12_fits_j127L36 FX12_fits_j132L36
  simp only [h9, n9, not_false_eq_true, if_true, e1]
  generalize c % 9 = s at *
  simp (disch := omega) only [zI_lit, zI_add, zI_eq, zI_neg]
  by_cases q : n = 0
  · rw [if_pos (by omega), if_pos (Or.inl q)]
    rfl
  · rw [if_neg (by omega)]
    by_cases r : v = ((s + 1 : Nat) : Int)
    · rw [if_pos (by omega), if_pos (Or.inr r)]
      rfl
    · rw [if_neg (by omega), if_neg (by omega)]
      rfl
theorem r_j73 (hc : c < 432) (hn : n ≤ 432) (hu : -2 ≤ u ∧ u < 1000) (hv : -2 ≤ v ∧ v < 1000) : FX12_fits_j73L36 J M 136 a2 (zI (n : Int)) (zI u) (zI v) (zI (c : Int)) = some (.inl (zI ((n + 1 : Nat) : Int), zI (if n = 0 ∨ u = ((c / 9 : Nat) : Int) then ((c / 9 : Nat) : Int) else -2), zI (if n = 0 ∨ v = ((c % 9 + 1 : Nat) : Int) then ((c % 9 + 1 : Nat) : Int) else -2), zI ((c + 1 : Nat) : Int))) := by
  have e1 : zI (c : Int) / zI 9 = zI ((c / 9 : Nat) : Int) := by rw [zI_div (by omega) (by omega)]; congr 1
  have h9 : (9 : Int32) = zI 9 := rfl
  have n9 : ¬ zI 9 = 0 := by decide
  have hm : c / 9 < 48 := by omega
  unfold FX12_fits_j73L36 FX12_fits_j87L36
  simp only [h9, n9, not_false_eq_true, if_true, e1, r_j97 hc hn hv]
  generalize c / 9 = s at *
  simp (disch := omega) only [zI_lit, zI_eq, zI_neg]
  by_cases q : n = 0
  · simp only [if_pos (by omega : (n : Int) = 0), if_pos (Or.inl q : n = 0 ∨ u = (s : Int))]
  · simp only [if_neg (by omega : ¬ (n : Int) = 0)]
    by_cases r : u = (s : Int)
    · simp only [if_pos r, if_pos (Or.inr r : n = 0 ∨ u = (s : Int))]
    · simp only [if_neg r, if_neg (by omega : ¬ (n = 0 ∨ u = (s : Int)))]
end FT
