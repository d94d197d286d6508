/-! LOGS: the query fits. -/
def amin (X : Nat) (m : Nat → Nat) : Nat → Int × Nat
  | 0 => (-1, X)
  | n + 1 => if m n < (amin X m n).2 then ((n : Int), m n) else amin X m n
theorem amin_s (X : Nat) (m : Nat → Nat) (n : Nat) : amin X m (n + 1) = if m n < (amin X m n).2 then ((n : Int), m n) else amin X m n := rfl
theorem amin_X {X Y : Nat} {m : Nat → Nat} (hX : m 0 < X) (hY : m 0 < Y) : ∀ n, amin X m (n + 1) = amin Y m (n + 1)
  | 0 => by rw [amin_s, amin_s, if_pos (show m 0 < (amin X m 0).2 from hX), if_pos (show m 0 < (amin Y m 0).2 from hY)]
  | n + 1 => by rw [amin_s, amin_X hX hY n, amin_s Y m (n + 1)]
theorem amin_stop {X : Nat} {m : Nat → Nat} (hm : ∀ q, 1 ≤ m q) {n : Nat} (h : (amin X m n).2 ≤ 1) : ∀ k, amin X m (n + k) = amin X m n
  | 0 => rfl
  | k + 1 => by
    rw [show n + (k + 1) = n + k + 1 by omega, amin_s, amin_stop hm h k, if_neg]
    have := hm (n + k)
    omega
theorem amin_le {X : Nat} {m : Nat → Nat} : ∀ n, (amin X m n).2 ≤ X ∧ -1 ≤ (amin X m n).1 ∧ (amin X m n).1 < n
  | 0 => by unfold amin; dsimp only; omega
  | n + 1 => by
    have := amin_le (X := X) (m := m) n
    rw [amin_s]
    split
    · dsimp only; omega
    · omega
theorem c_fitCount {I : tq_PI} {M : tq_PL} {F : Nat → Bool} (G : GA M F) : FX2_fitCount I M 49 = some (zI ((fb_ct F n432 : Nat) : Int)) := by
  have nn := n432_e
  unfold FX2_fitCount
  rw [c_countIn I G, obind]
  congr 3
  have : fb_ct (fun c => F c && bb (281474976710655 : Int64) (c / 9)) n432 = fb_ct F n432 := fb_ct_cong fun c hc => by
    rw [bb_widest, decide_eq_true (by omega), Bool.and_true]
  rw [this]
theorem c_best {I : tq_PI} {M : tq_PL} {F : Nat → Bool} (G : GA M F) : ∃ J, FX2_bestAsked I M 49 = some (zI (if fb_ct F n432 = 0 then -1 else (amin 999 (lmx F) 48).1), J) ∧ FC 51 I J := by
  have nn := n432_e
  have hN := fb_ct_le F n432
  have ec := c_fitCount (I := I) G
  obtain ⟨b, eb, J, rfl, FJ⟩ := it_for (f := fun p : Int32 × Int32 × Int32 × tq_PI => FX2_bestAsked_s11 p.2.2.2 M 49 p.1 p.2.1 p.2.2.1) (fun k (s : tq_PI) => (zI (amin (fb_ct F n432 + 1) (lmx F) k).1, zI ((amin (fb_ct F n432 + 1) (lmx F) k).2 : Nat), zI (k : Int), s)) 48 (fun k J => FC 51 I J ∧ (fb_ct F n432 = 0 → k = 0)) (Post := fun b => ∃ J, b = (zI (if fb_ct F n432 = 0 then -1 else (amin 999 (lmx F) 48).1), J) ∧ FC 51 I J) (fun k J hk hJ => by
    obtain ⟨f, h0⟩ := hJ
    have al := amin_le (X := fb_ct F n432 + 1) (m := lmx F) k
    obtain ⟨J2, e2, f2⟩ := c_most (I := J) G (q := k) hk
    have ml := lmx_le F k
    by_cases z : fb_ct F n432 = 0
    · have := h0 z
      subst this
      refine Or.inr ⟨_, ?_, J, rfl, f⟩
      unfold FX2_bestAsked_s11
      dsimp only
      rw [z, if_pos rfl]
      simp (disch := omega) only [amin, zlet, obind, zI_lit, zI_neg, zI_add, zI_sub, zI_mul, zI_div, zI_le, zI_lt, zI_eq, zI_cl, irem, ile_t, ile_f, ilt_t, ilt_f, ieq_t, ieq_f, and_true, true_and, and_false, false_and, and_self, not_true_eq_false, not_false_eq_true, ↓reduceIte, Int.toNat_natCast, tqb_z, tqb_t, tqb_f]
    · rw [if_neg z]
      by_cases st : (amin (fb_ct F n432 + 1) (lmx F) k).2 ≤ 1
      · have := amin_stop (fun q => lmx_pos (F := F) q (by omega)) st (48 - k)
        rw [show k + (48 - k) = 47 + 1 by omega, amin_X (Y := 999) (by have := lmx_le F 0; omega) (by have := lmx_le F 0; omega)] at this
        refine Or.inr ⟨_, ?_, J, rfl, f⟩
        unfold FX2_bestAsked_s11
        simp (disch := omega) only [zlet, obind, zI_lit, zI_neg, zI_add, zI_sub, zI_mul, zI_div, zI_le, zI_lt, zI_eq, zI_cl, irem, ile_t, ile_f, ilt_t, ilt_f, ieq_t, ieq_f, and_true, true_and, and_false, false_and, and_self, not_true_eq_false, not_false_eq_true, ↓reduceIte, Int.toNat_natCast, tqb_z, tqb_t, tqb_f]
        rw [show (48 : Nat) = 47 + 1 from rfl, this]
      · refine Or.inl ⟨J2, ?_, f.tr f2, fun h => absurd h z⟩
        unfold FX2_bestAsked_s11 FX2_bestAsked_j40L11
        simp (disch := omega) only [zlet, obind, zI_lit, zI_neg, zI_add, zI_sub, zI_mul, zI_div, zI_le, zI_lt, zI_eq, zI_cl, irem, ile_t, ile_f, ilt_t, ilt_f, ieq_t, ieq_f, and_true, true_and, and_false, false_and, and_self, not_true_eq_false, not_false_eq_true, ↓reduceIte, Int.toNat_natCast, tqb_z, tqb_t, tqb_f, e2]
        rw [amin_s]
        by_cases q1 : lmx F k < (amin (fb_ct F n432 + 1) (lmx F) k).2
        · rw [if_pos q1, if_neg (by omega)]; rfl
        · rw [if_neg q1, if_pos (by omega)]; rfl) (fun J hJ => by
    obtain ⟨f, h0⟩ := hJ
    have z : ¬ fb_ct F n432 = 0 := fun h => by have := h0 h; omega
    refine ⟨_, ?_, J, rfl, f⟩
    unfold FX2_bestAsked_s11
    rw [if_neg z]
    have := amin_X (m := lmx F) (X := fb_ct F n432 + 1) (Y := 999) (by have := lmx_le F 0; omega) (by have := lmx_le F 0; omega) 47
    rw [show (48 : Nat) = 47 + 1 from rfl, this]
    simp (disch := omega) only [zlet, obind, zI_lit, zI_neg, zI_add, zI_sub, zI_mul, zI_div, zI_le, zI_lt, zI_eq, zI_cl, irem, ile_t, ile_f, ilt_t, ilt_f, ieq_t, ieq_f, and_true, true_and, and_false, false_and, and_self, not_true_eq_false, not_false_eq_true, ↓reduceIte, Int.toNat_natCast, tqb_z, tqb_t, tqb_f]) 0 I (by omega) (by omega) ⟨FC.rf, fun _ => rfl⟩
  refine ⟨J, ?_, FJ⟩
  have eb' : tq_it (fun p : Int32 × Int32 × Int32 × tq_PI => FX2_bestAsked_s11 p.2.2.2 M 49 p.1 p.2.1 p.2.2.1) tq_N ((-1 : Int32), zI ((fb_ct F n432 : Nat) : Int) + (1 : Int32), (0 : Int32), I) = some (zI (if fb_ct F n432 = 0 then -1 else (amin 999 (lmx F) 48).1), J) := by
    rw [show (1 : Int32) = zI 1 from rfl, zI_add]
    exact eb
  unfold FX2_bestAsked
  rw [ec, obind, eb', obind]
section GS
variable {I J : tq_PI} {M : tq_PL} {y o m : Nat} {lc lh : Nat → Nat}
theorem r_ask (D : LD I y (J 137) o m lc lh) (h33 : J 136 33 = zI (o : Int)) (ho : o + 17 ≤ 4016) : ∃ K, FX12_askOf J M 136 = some (zI (amin 999 (lmx (fit m lc lh)) 48).1, K) ∧ FC 151 J K := by
  have nn := n432_e
  have hN := fb_ct_le (fit m lc lh) n432
  obtain ⟨b, eb, K, rfl, FK⟩ := it_for (f := fun p : Int32 × Int32 × Int32 × tq_PI => FX12_askOf_s8 p.2.2.2 M 136 p.1 p.2.1 p.2.2.1) (fun k (s : tq_PI) => (zI (amin 999 (lmx (fit m lc lh)) k).1, zI ((amin 999 (lmx (fit m lc lh)) k).2 : Nat), zI (k : Int), s)) 48 (fun k K => FC 151 J K) (Post := fun b => ∃ K, b = (zI (amin 999 (lmx (fit m lc lh)) 48).1, K) ∧ FC 151 J K) (fun k K hk f => by
    have D' : LD I y (K 137) o m lc lh := by rw [f 137 (by omega)]; exact D
    have h33' : K 136 33 = zI (o : Int) := by rw [f 136 (by omega)]; exact h33
    obtain ⟨K2, e2, f2⟩ := r_greatest (M := M) D' h33' ho (q := k) hk
    have al := amin_le (X := 999) (m := lmx (fit m lc lh)) k
    have ml := lmx_le (fit m lc lh) k
    refine Or.inl ⟨K2, ?_, f.tr f2⟩
    unfold FX12_askOf_s8 FX12_askOf_j35L8
    simp (disch := omega) only [zlet, obind, zI_lit, zI_neg, zI_add, zI_sub, zI_mul, zI_div, zI_le, zI_lt, zI_eq, zI_cl, irem, ile_t, ile_f, ilt_t, ilt_f, ieq_t, ieq_f, and_true, true_and, and_false, false_and, and_self, not_true_eq_false, not_false_eq_true, ↓reduceIte, Int.toNat_natCast, tqb_z, tqb_t, tqb_f, e2]
    rw [amin_s]
    by_cases q1 : lmx (fit m lc lh) k < (amin 999 (lmx (fit m lc lh)) k).2
    · rw [if_pos q1, if_pos (by omega)]; rfl
    · rw [if_neg q1, if_neg (by omega)]; rfl) (fun K f => ⟨_, by
    unfold FX12_askOf_s8
    simp (disch := omega) only [zlet, obind, zI_lit, zI_neg, zI_add, zI_sub, zI_mul, zI_div, zI_le, zI_lt, zI_eq, zI_cl, irem, ile_t, ile_f, ilt_t, ilt_f, ieq_t, ieq_f, and_true, true_and, and_false, false_and, and_self, not_true_eq_false, not_false_eq_true, ↓reduceIte, Int.toNat_natCast, tqb_z, tqb_t, tqb_f], K, rfl, f⟩) 0 J (by omega) (by omega) FC.rf
  refine ⟨K, ?_, FK⟩
  have eb' : tq_it (fun p : Int32 × Int32 × Int32 × tq_PI => FX12_askOf_s8 p.2.2.2 M 136 p.1 p.2.1 p.2.2.1) tq_N ((-1 : Int32), (999 : Int32), (0 : Int32), J) = some (zI (amin 999 (lmx (fit m lc lh)) 48).1, K) := eb
  unfold FX12_askOf
  rw [eb', obind]
end GS
