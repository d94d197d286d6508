/-! THE LINK: a hill of the class and the same hill in the reference's row. -/
def psl (a : Nat) : Prop := a < 30 ∨ (55 ≤ a ∧ a < 136) ∨ a = 137 ∨ a = 138
def FP {α : Type} (I J : Nat → Nat → α) : Prop := ∀ a, psl a → J a = I a
theorem FP.rf {α : Type} {I : Nat → Nat → α} : FP I I := fun _ _ => rfl
theorem FP.tr {α : Type} {I J M : Nat → Nat → α} (h : FP I J) (k : FP J M) : FP I M := fun a q => (k a q).trans (h a q)
theorem FC.fp {b : Nat} {I J : tq_PI} (h : FC b I J) (q : ¬ psl b) : FP I J := fun a p => h a (fun e => q (e ▸ p))
theorem FG.fp {l : Nat} {I J : tq_PI} (h : FG l I J) : FP I J := fun a p => funext fun j => h a j (Or.inl (fun e => by rw [e] at p; unfold psl at p; omega))
theorem FP.a {I J : tq_PI} (h : FP I J) : J 137 = I 137 := h 137 (by unfold psl; omega)
def HA (A : Nat → Int32) (i w h : Nat) (K : Nat → Nat) : Prop := A (610 + 50 * i) = zI (w : Int) ∧ A (611 + 50 * i) = zI (h : Int) ∧ ∀ c, c < w * h → A (612 + 50 * i + c) = zI (K (pl w c) : Nat)
def Stn (h : Nat) (K : Nat → Nat) : Prop := ∀ q, sol K q = true → std h (sol K) q = true
def HV (I : tq_PI) (L : tq_PL) (b o : Nat) : Prop := ∃ m : Nat, m ≤ 2 ∧ I 137 o = zI (m : Int) ∧ I (b + 2) 0 = zI (m : Int) ∧ ∀ i, i < m → ∃ w h K, HC I L (b + 7 + 10 * i) w h K ∧ HA (fun j => I 137 (o + j)) i w h K ∧ Stn h K
theorem r_isIn (I : tq_PI) (L : tq_PL) {a b c : Int} (ha : -2147483648 ≤ a ∧ a < 2147483648) (hb : -2147483648 ≤ b ∧ b < 2147483648) (hc : -2147483648 ≤ c ∧ c < 2147483648) : FX12_isIn I L (zI a) (zI b) (zI c) = decide (b ≤ a ∧ a ≤ c) := by
  unfold FX12_isIn FX12_isIn_j14
  simp only [zI_lt ha hb, zI_lt hc ha]
  by_cases q : a < b
  · rw [if_pos q]; symm; rw [decide_eq_false_iff_not]; omega
  · rw [if_neg q]
    by_cases r : c < a
    · rw [if_pos r]; symm; rw [decide_eq_false_iff_not]; omega
    · rw [if_neg r]; symm; rw [decide_eq_true_eq]; omega
theorem r_isOf {J : tq_PI} (L : tq_PL) {s m : Nat} (hs : s < 4) (hm : J 137 s = zI (m : Int)) (hm2 : m ≤ 2) {z : Int} (hz : -2147483648 ≤ z ∧ z < 2147483648) : FX12_isOf J L 136 (zI (s : Int)) (zI z) = some (decide (0 ≤ z ∧ z < m)) := by
  unfold FX12_isOf
  simp (disch := omega) only [zlet, obind, zI_lit, zI_neg, zI_add, zI_sub, zI_mul, zI_div, zI_le, zI_lt, zI_eq, zI_cl, irem, ile_t, ile_f, ilt_t, ilt_f, ieq_t, ieq_f, and_true, true_and, and_false, false_and, and_self, not_true_eq_false, not_false_eq_true, ↓reduceIte, Int.toNat_natCast, tqb_z, tqb_t, tqb_f, g0, hm]
  rw [r_isIn _ _ hz (by omega) (by omega)]
  congr 2
  apply propext
  omega
theorem r_isHill_f {J : tq_PI} (L : tq_PL) {m : Nat} (hm : J 137 0 = zI (m : Int)) (hm2 : m ≤ 2) {z : Int} (hz : -2147483648 ≤ z ∧ z < 2147483648) (hn : ¬ (0 ≤ z ∧ z < m)) : FX12_isHill J L 136 (zI z) = some (false, J) := by
  unfold FX12_isHill
  rw [show ((0 : Int32)) = zI ((0 : Nat) : Int) from rfl, r_isOf L (by omega) hm hm2 hz, obind, if_pos (by simp [hn, tq_b]; rfl)]
theorem r_isHill_t {J : tq_PI} (L : tq_PL) {m i w h : Nat} {K : Nat → Nat} (hm : J 137 0 = zI (m : Int)) (hm2 : m ≤ 2) (hi : i < m) (k : wh w h) (A : HA (J 137) i w h K) : ∃ J1, FX12_isHill J L 136 (zI (i : Int)) = some (true, J1) ∧ FC 136 J J1 ∧ RW J1 w h ∧ J1 136 12 = zI ((610 + 50 * i : Nat) : Int) := by
  have e : FX12_isOf J L 136 (0 : Int32) (zI (i : Int)) = some true := by
    rw [show ((0 : Int32)) = zI ((0 : Nat) : Int) from rfl, r_isOf L (by omega) hm hm2 (by omega)]
    congr 1
    rw [decide_eq_true_eq]
    omega
  unfold FX12_isHill FX12_placeOf
  rw [e, obind]
  simp (disch := omega) only [zlet, obind, zI_lit, zI_neg, zI_add, zI_sub, zI_mul, zI_div, zI_le, zI_lt, zI_eq, zI_cl, irem, ile_t, ile_f, ilt_t, ilt_f, ieq_t, ieq_f, and_true, true_and, and_false, false_and, and_self, not_true_eq_false, not_false_eq_true, ↓reduceIte, Int.toNat_natCast, tqb_z, tqb_t, tqb_f, g0, up_s, up_n, show ¬ (zI 1 = zI 0) from by decide]
  rw [show ((610 : Int) + 50 * (i : Int)).toNat = 610 + 50 * i by omega, show ((610 : Int) + 50 * (i : Int) + 1).toNat = 611 + 50 * i by omega, A.1, A.2.1]
  refine ⟨_, rfl, ?_, ⟨?_, ?_, k⟩, ?_⟩
  · exact (FC.up.tr FC.up).tr FC.up
  · rw [up_n _ _ (by omega), up_s]
  · rw [up_s]
  · rw [up_n _ _ (by omega), up_n _ _ (by omega), up_s]
    congr 1
theorem r_asTold {J : tq_PI} (L : tq_PL) {i w h : Nat} {K : Nat → Nat} (k : wh w h) (hi : i < 2) (A : HA (J 137) i w h K) (hK : ∀ p, K p ≤ 4) (hz : ∀ p, ar w h p = false → K p = 0) (h0 : J 136 12 = zI ((610 + 50 * i : Nat) : Int)) : ∃ J2, FX12_asTold J L 136 = some J2 ∧ FG 0 J J2 ∧ GR J2 w h 0 K := by
  have h48 := wh_le k
  obtain ⟨J2, e, h1, h2⟩ := it_for (f := fun p : Int32 × tq_PI => FX12_asTold_s2 p.2 L 136 p.1) (fun j (M : tq_PI) => (zI (j : Int), M)) 48 (fun j M => FG 0 J M ∧ ∀ d, d < j → M 140 d = J 137 (612 + 50 * i + d)) (Post := fun M => FG 0 J M ∧ ∀ d, d < 48 → M 140 d = J 137 (612 + 50 * i + d)) (fun j M hj hs => by
    unfold FX12_asTold_s2
    have h12 : M 136 12 = zI ((610 + 50 * i : Nat) : Int) := by rw [hs.1 _ _ (Or.inl (by omega))]; exact h0
    have h137 : ∀ x, M 137 x = J 137 x := fun x => hs.1 _ _ (Or.inl (by omega))
    simp (disch := omega) only [zlet, obind, zI_lit, zI_neg, zI_add, zI_sub, zI_mul, zI_div, zI_le, zI_lt, zI_eq, zI_cl, irem, ile_t, ile_f, ilt_t, ilt_f, ieq_t, ieq_f, and_true, true_and, and_false, false_and, and_self, not_true_eq_false, not_false_eq_true, ↓reduceIte, Int.toNat_natCast, tqb_z, tqb_t, tqb_f, h12, g0, g15, h137]
    rw [show (((610 + 50 * i : Nat) : Int) + 2 + (j : Int)).toNat = 612 + 50 * i + j by omega]
    refine Or.inl ⟨_, rfl, hs.1.tr (FG.up (by omega)), fun d hd => ?_⟩
    by_cases q : d = j
    · rw [q, up_s]
    · rw [up_n _ _ (Or.inr (by omega))]
      exact hs.2 d (by omega)) (fun M hs => by
    unfold FX12_asTold_s2
    simp (disch := omega) only [zlet, obind, zI_lit, zI_neg, zI_add, zI_sub, zI_mul, zI_div, zI_le, zI_lt, zI_eq, zI_cl, irem, ile_t, ile_f, ilt_t, ilt_f, ieq_t, ieq_f, and_true, true_and, and_false, false_and, and_self, not_true_eq_false, not_false_eq_true, ↓reduceIte, Int.toNat_natCast, tqb_z, tqb_t, tqb_f]
    exact ⟨_, rfl, hs⟩) 0 J (by omega) (by omega) ⟨FG.rf, fun d hd => absurd hd (Nat.not_lt_zero d)⟩
  refine ⟨J2, ?_, h1, ⟨fun c hc => ?_, hK, hz⟩⟩
  · unfold FX12_asTold
    exact (congrArg (fun o => Option.bind o _) e).trans (obind _ _)
  · rw [show 48 * 0 + c = c by omega, h2 c (by omega)]
    exact A.2.2 c hc
theorem rg_0_0 : tq_rg 0 0 = 1 := by decide +kernel
theorem rg_1_4 : tq_rg 1 4 = 3 := by decide +kernel
theorem rg_1_5 : tq_rg 1 5 = 4 := by decide +kernel
theorem rg_4 : ∀ i, i < 2 → tq_rg 4 i = 8 + 10 * i := by decide +kernel
theorem c_hillAt_f {I : tq_PI} (L : tq_PL) {m : Nat} (hm : I 3 0 = zI (m : Int)) (hm2 : m ≤ 2) {z : Int} (hz : -2147483648 ≤ z ∧ z < 2147483648) (hn : ¬ (0 ≤ z ∧ z < m)) : FX0_hillAt I L 1 (zI z) = some none := by
  unfold FX0_hillAt FX0_hillAt_j22 FX0_countOf
  simp (disch := omega) only [zlet, obind, zI_lit, zI_neg, zI_add, zI_sub, zI_mul, zI_div, zI_le, zI_lt, zI_eq, zI_cl, irem, ile_t, ile_f, ilt_t, ilt_f, ieq_t, ieq_f, and_true, true_and, and_false, false_and, and_self, not_true_eq_false, not_false_eq_true, ↓reduceIte, Int.toNat_natCast, tqb_z, tqb_t, tqb_f, rg_1_4, hm, show (0 : Int).toNat = 0 from rfl]
  by_cases q : z < 0
  · rw [if_pos q]
  · rw [if_neg q]
theorem c_hillAt_t {I : tq_PI} (L : tq_PL) {m i : Nat} (hm : I 3 0 = zI (m : Int)) (hm2 : m ≤ 2) (hi : i < m) : FX0_hillAt I L 1 (zI (i : Int)) = some (some (8 + 10 * i)) := by
  unfold FX0_hillAt FX0_hillAt_j22 FX0_countOf
  simp (disch := omega) only [zlet, obind, zI_lit, zI_neg, zI_add, zI_sub, zI_mul, zI_div, zI_le, zI_lt, zI_eq, zI_cl, irem, ile_t, ile_f, ilt_t, ilt_f, ieq_t, ieq_f, and_true, true_and, and_false, false_and, and_self, not_true_eq_false, not_false_eq_true, ↓reduceIte, Int.toNat_natCast, tqb_z, tqb_t, tqb_f, rg_1_4, rg_1_5, hm, show (0 : Int).toNat = 0 from rfl]
  rw [rg_4 i (by omega)]
/-- the reference behind isHill and asTold -/
def RT (J : tq_PI) (L : tq_PL) (z : Int) (i w h : Nat) (K : Nat → Nat) : Prop := ∃ J1 J2, FX12_isHill J L 136 (zI z) = some (true, J1) ∧ FX12_asTold J1 L 136 = some J2 ∧ RW J1 w h ∧ RW J2 w h ∧ GR J2 w h 0 K ∧ FP J J1 ∧ FP J J2 ∧ J1 136 12 = zI ((610 + 50 * i : Nat) : Int) ∧ J2 136 12 = zI ((610 + 50 * i : Nat) : Int) ∧ J1 137 = J 137 ∧ J2 137 = J 137 ∧ HA (J 137) i w h K
theorem hill_case {I : tq_PI} {L : tq_PL} (V : HV I L 1 0) (x : Int32) : (FX0_hillAt I L 1 x = some none ∧ ∀ J M, J 137 = I 137 → FX12_isHill J M 136 x = some (false, J)) ∨ ∃ (i : Nat) (w h : Nat) (K : Nat → Nat), i < 2 ∧ x = zI (i : Int) ∧ FX0_hillAt I L 1 x = some (some (8 + 10 * i)) ∧ HC I L (8 + 10 * i) w h K ∧ Stn h K ∧ ∀ J M, J 137 = I 137 → RT J M (i : Int) i w h K := by
  obtain ⟨m, hm2, hm, hm3, hV⟩ := V
  obtain ⟨z, hz, rfl⟩ := zI_of x
  by_cases q : 0 ≤ z ∧ z < m
  · obtain ⟨i, rfl⟩ : ∃ i : Nat, z = i := ⟨z.toNat, by omega⟩
    obtain ⟨w, h, K, H, A, S⟩ := hV i (by omega)
    have eA : (fun j => I 137 (0 + j)) = I 137 := funext fun j => by rw [Nat.zero_add]
    rw [eA] at A
    rw [show 1 + 7 + 10 * i = 8 + 10 * i by omega] at H
    refine Or.inr ⟨i, w, h, K, by omega, rfl, c_hillAt_t L hm3 hm2 (by omega), H, S, fun J M hJ => ?_⟩
    rw [← hJ] at hm A
    obtain ⟨J1, e1, F1, R1, h1⟩ := r_isHill_t M hm hm2 (by omega) H.k A
    have h137 : J1 137 = J 137 := F1 137 (by omega)
    obtain ⟨J2, e2, F2, G2⟩ := r_asTold M H.k (i := i) (by omega) (by rw [h137]; exact A) H.le H.z h1
    have p1 : FP J J1 := F1.fp (by unfold psl; omega)
    have p2 : FP J1 J2 := F2.fp
    refine ⟨J1, J2, e1, e2, R1, R1.fg F2, G2, p1, p1.tr p2, h1, ?_, h137, p2.a.trans h137, A⟩
    rw [F2 _ _ (Or.inl (by omega))]
    exact h1
  · refine Or.inl ⟨c_hillAt_f L hm3 hm2 hz q, fun J M hJ => ?_⟩
    rw [← hJ] at hm
    exact r_isHill_f M hm hm2 hz q
