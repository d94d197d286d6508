/-! YEARS: a run of deeds; the queries stop, state, deed. -/
def YV (I : tq_PI) (b o : Nat) : Prop := ∃ m : Nat, m ≤ 2 ∧ I 137 (o + 1) = zI (m : Int) ∧ I (b + 2) 1 = zI (m : Int) ∧ ∀ i, i < m → ∃ n yk yf ys, YD I (b + 8 + 10 * i) (fun j => I 137 (o + j)) (710 + 121 * i) n yk yf ys
theorem rg_1_6 : tq_rg 1 6 = 5 := by decide +kernel
theorem rg_5 : ∀ i, i < 2 → tq_rg 5 i = 9 + 10 * i := by decide +kernel
theorem rg_y : ∀ i, i < 2 → tq_rg (9 + 10 * i) 1 = 9 + 10 * i + 1 ∧ tq_rg (9 + 10 * i) 2 = 9 + 10 * i + 2 ∧ tq_rg (9 + 10 * i) 3 = 9 + 10 * i + 3 := by decide +kernel
theorem rg_0_4 : tq_rg 0 4 = 43 := by decide +kernel
/-- a year in both -/
theorem year_case {I : tq_PI} (V : YV I 1 0) (x : Int32) : (∀ L, FX0_yearAt I L 1 x = some none ∧ ∀ J M, J 137 = I 137 → FX12_isYear J M 136 x = some (false, J)) ∨ ∃ (i n : Nat) (yk yf ys : Nat → Nat), i < 2 ∧ x = zI (i : Int) ∧ (∀ L, FX0_yearAt I L 1 x = some (some (9 + 10 * i))) ∧ YD I (9 + 10 * i) (I 137) (710 + 121 * i) n yk yf ys ∧ ∀ J M, J 137 = I 137 → FX12_isYear J M 136 x = some (true, tq_up2 J 136 19 (zI ((710 + 121 * i : Nat) : Int))) := by
  obtain ⟨m, hm2, hm, hm3, hV⟩ := V
  obtain ⟨z, hz, rfl⟩ := zI_of x
  by_cases q : 0 ≤ z ∧ z < m
  · obtain ⟨i, rfl⟩ : ∃ i : Nat, z = i := ⟨z.toNat, by omega⟩
    obtain ⟨n, yk, yf, ys, D⟩ := hV i (by omega)
    have eA : (fun j => I 137 (0 + j)) = I 137 := funext fun j => by rw [Nat.zero_add]
    rw [eA, show 1 + 8 + 10 * i = 9 + 10 * i by omega] at D
    refine Or.inr ⟨i, n, yk, yf, ys, by omega, rfl, fun L => ?_, D, fun J M hJ => ?_⟩
    · unfold FX0_yearAt FX0_countOf
      simp (disch := omega) only [zlet, obind, zI_lit, zI_neg, zI_add, zI_sub, zI_mul, zI_div, zI_le, zI_lt, zI_eq, zI_cl, irem, ile_t, ile_f, ilt_t, ilt_f, ieq_t, ieq_f, and_true, true_and, and_false, false_and, and_self, not_true_eq_false, not_false_eq_true, ↓reduceIte, Int.toNat_natCast, tqb_z, tqb_t, tqb_f, rg_1_4, rg_1_6, hm3, show (1 : Int).toNat = 1 from rfl]
      rw [rg_5 i (by omega)]
    · have e := r_isOf (J := J) M (s := 1) (by omega) (by rw [hJ]; exact hm) hm2 (z := (i : Int)) (by omega)
      have e' : FX12_isOf J M 136 (zI 1) (zI (i : Int)) = some true := by
        refine e.trans ?_
        congr 1
        rw [decide_eq_true_eq]
        omega
      unfold FX12_isYear FX12_placeOf
      simp (disch := omega) only [zlet, obind, zI_lit, zI_neg, zI_add, zI_sub, zI_mul, zI_div, zI_le, zI_lt, zI_eq, zI_cl, irem, ile_t, ile_f, ilt_t, ilt_f, ieq_t, ieq_f, and_true, true_and, and_false, false_and, and_self, not_true_eq_false, not_false_eq_true, ↓reduceIte, Int.toNat_natCast, tqb_z, tqb_t, tqb_f, r_isIn, decide_eq_false_iff_not, decide_eq_true_eq, oel_s, oel_n, Bool.false_eq_true, btf, eq_self, or_self, or_false, false_or, or_true, true_or, iand_f, iandl_f, ior_t, ior_f, e']
      rfl
  · refine Or.inl fun L => ⟨?_, fun J M hJ => ?_⟩
    · unfold FX0_yearAt FX0_yearAt_j22 FX0_countOf
      simp (disch := omega) only [zlet, obind, zI_lit, zI_neg, zI_add, zI_sub, zI_mul, zI_div, zI_le, zI_lt, zI_eq, zI_cl, irem, ile_t, ile_f, ilt_t, ilt_f, ieq_t, ieq_f, and_true, true_and, and_false, false_and, and_self, not_true_eq_false, not_false_eq_true, ↓reduceIte, Int.toNat_natCast, tqb_z, tqb_t, tqb_f, rg_1_4, hm3, show (1 : Int).toNat = 1 from rfl]
      by_cases q1 : z < 0
      · rw [if_pos q1]
      · rw [if_neg q1]
    · have e := r_isOf (J := J) M (s := 1) (by omega) (by rw [hJ]; exact hm) hm2 hz
      have e' : FX12_isOf J M 136 (zI 1) (zI z) = some false := by
        refine e.trans ?_
        congr 1
        rw [decide_eq_false_iff_not]
        exact q
      unfold FX12_isYear
      simp (disch := omega) only [zlet, obind, zI_lit, zI_neg, zI_add, zI_sub, zI_mul, zI_div, zI_le, zI_lt, zI_eq, zI_cl, irem, ile_t, ile_f, ilt_t, ilt_f, ieq_t, ieq_f, and_true, true_and, and_false, false_and, and_self, not_true_eq_false, not_false_eq_true, ↓reduceIte, Int.toNat_natCast, tqb_z, tqb_t, tqb_f, r_isIn, decide_eq_false_iff_not, decide_eq_true_eq, oel_s, oel_n, Bool.false_eq_true, btf, eq_self, or_self, or_false, false_or, or_true, true_or, iand_f, iandl_f, ior_t, ior_f, e']
section YA
variable {I : tq_PI} {L : tq_PL} {w h i o m : Nat} {x : Yst} {yk yf ys : Nat → Nat} {A : Nat → Int32}
theorem c_yAt (hi : i < 2) (D : YD I (9 + 10 * i) A o m yk yf ys) {k : Nat} (hk : k < m) (L : tq_PL) : FX10_kindAt I L (9 + 10 * i) (zI (k : Int)) = some (zI (yk k : Nat)) ∧ FX10_firstAt I L (9 + 10 * i) (zI (k : Int)) = some (zI (yf k : Nat)) ∧ FX10_secondAt I L (9 + 10 * i) (zI (k : Int)) = some (if yk k = 3 then zI (-1) else zI (ys k : Nat)) := by
  obtain ⟨hm, -, -, hD⟩ := D
  obtain ⟨d1, d2, d3, d4, d5, d6, -⟩ := hD k hk
  obtain ⟨g1, g2, g3⟩ := rg_y i hi
  refine ⟨?_, ?_, ?_⟩
  · unfold FX10_kindAt
    simp (disch := omega) only [zlet, obind, zI_lit, zI_neg, zI_add, zI_sub, zI_mul, zI_div, zI_le, zI_lt, zI_eq, zI_cl, irem, ile_t, ile_f, ilt_t, ilt_f, ieq_t, ieq_f, and_true, true_and, and_false, false_and, and_self, not_true_eq_false, not_false_eq_true, ↓reduceIte, Int.toNat_natCast, tqb_z, tqb_t, tqb_f, g1, d4]
  · unfold FX10_firstAt
    simp (disch := omega) only [zlet, obind, zI_lit, zI_neg, zI_add, zI_sub, zI_mul, zI_div, zI_le, zI_lt, zI_eq, zI_cl, irem, ile_t, ile_f, ilt_t, ilt_f, ieq_t, ieq_f, and_true, true_and, and_false, false_and, and_self, not_true_eq_false, not_false_eq_true, ↓reduceIte, Int.toNat_natCast, tqb_z, tqb_t, tqb_f, g2, d5]
  · unfold FX10_secondAt
    simp (disch := omega) only [zlet, obind, zI_lit, zI_neg, zI_add, zI_sub, zI_mul, zI_div, zI_le, zI_lt, zI_eq, zI_cl, irem, ile_t, ile_f, ilt_t, ilt_f, ieq_t, ieq_f, and_true, true_and, and_false, false_and, and_self, not_true_eq_false, not_false_eq_true, ↓reduceIte, Int.toNat_natCast, tqb_z, tqb_t, tqb_f, g3, d6]
theorem YD.fi {J : tq_PI} (D : YD I (9 + 10 * i) A o m yk yf ys) (hi : i < 2) (F : FC 43 I J) : YD J (9 + 10 * i) A o m yk yf ys := by
  unfold YD
  rw [F (9 + 10 * i) (by omega), F (9 + 10 * i + 1) (by omega), F (9 + 10 * i + 2) (by omega), F (9 + 10 * i + 3) (by omega)]
  exact D
theorem c_act (C : SC I L w h x) (hi : i < 2) (D : YD I (9 + 10 * i) A o m yk yf ys) {k : Nat} (hk : k < m) : ∃ J M, FX8_act I L 43 (9 + 10 * i) (zI (k : Int)) = some ((tld w h (yk k) (yf k) (ys k) x).isSome, J, M) ∧ FC 43 I J ∧ FK 44 L M ∧ SC J M w h ((tld w h (yk k) (yf k) (ys k) x).getD x) ∧ ∀ j, 7 ≤ j → J 43 j = I 43 j := by
  obtain ⟨a1, a2, a3⟩ := c_yAt hi D hk L
  obtain ⟨hm, -, -, hD⟩ := D
  obtain ⟨d1, d2, d3, -⟩ := hD k hk
  have hw := C.1.k.2.1
  have hh := C.1.k.2.2.2
  unfold FX8_act
  simp only [a1, a2, a3, obind, zlet, rg_43_0]
  unfold tld
  by_cases q3 : yk k = 3
  · rw [if_pos (Or.inl q3), if_pos (by rw [zI_lit, zI_eq (by omega) (by omega)]; omega)]
    have dn : done1 w h (yk k) (8 * ys k + yf k) (yf k : Int) x = some (dkn w h x (yf k : Int)) := by unfold done1; rw [if_pos q3]
    rw [dn]
    obtain ⟨r, er, fr⟩ := c_thick C.1 (c_sol C.1) (sb_rf _) C.1.z
    rw [c_heard C.1 fr (by omega), obind]
    have hth := thk_eq fr
    have h6 : I 43 6 = zI (x.2 5 : Nat) := C.2 5 (by omega)
    have fin : ∀ b : Nat, b = (if thk w h x.1 ≠ -1 ∧ thk w h x.1 ≤ (yf k : Int) then 1 else 0) → ∃ J M, some (true, tq_up2 I 43 6 (zI (x.2 5 : Nat) + zI (b : Int)), L) = some ((some (dkn w h x (yf k : Int))).isSome, J, M) ∧ FC 43 I J ∧ FK 44 L M ∧ SC J M w h ((some (dkn w h x (yf k : Int))).getD x) ∧ ∀ j, 7 ≤ j → J 43 j = I 43 j := fun b hb => by
      refine ⟨_, L, rfl, FC.up, FK.rf, ⟨C.1.fi FC.up (by omega), fun j hj => ?_⟩, fun j hj => up_n _ _ (by omega)⟩
      show tq_up2 I 43 6 _ 43 (1 + j) = zI ((dkn w h x (yf k : Int)).2 j : Nat)
      unfold dkn vup
      dsimp only
      rw [← hb]
      by_cases j5 : j = 5
      · subst j5
        rw [up_s, if_pos rfl, zI_add]; rfl
      · rw [up_n _ _ (by omega), if_neg j5]
        exact C.2 j hj
    unfold FX8_act_j36
    rw [h6]
    by_cases q : r ≠ -1 ∧ r ≤ (yf k : Int)
    · rw [if_neg (by simp [q, tq_b])]
      exact fin 1 (by rw [hth, if_pos q])
    · rw [if_pos (by simp [q, tq_b])]
      exact fin 0 (by rw [hth, if_neg q])
  · have n3 : ¬ zI (yk k : Nat) = (3 : Int32) := by rw [zI_lit, zI_eq (by omega) (by omega)]; omega
    rw [if_neg n3, if_neg q3]
    by_cases q1 : yf k < w ∧ ys k < h
    · rw [if_pos (show yk k = 3 ∨ (yf k < w ∧ ys k < h) from Or.inr q1)]
      have hy := c_bitAt C.1 q1.1 q1.2
      unfold done1
      rw [if_neg q3]
      by_cases q2 : yk k = 2
      · rw [if_pos (by rw [zI_lit, zI_eq (by omega) (by omega)]; omega), if_pos q2]
        cases qa : air w h x.1 (8 * ys k + yf k)
        · rw [c_prop_f C (fun p hp => by rw [hy] at hp; simp only [decide_eq_true_eq] at hp; rw [hp]; exact qa)]
          exact ⟨I, L, rfl, FC.rf, FK.rf, C, fun _ _ => rfl⟩
        · obtain ⟨M, e, F, C2⟩ := c_prop_t C hy qa
          rw [e]
          exact ⟨I, M, rfl, FC.rf, F, C2, fun _ _ => rfl⟩
      · rw [if_neg (by rw [zI_lit, zI_eq (by omega) (by omega)]; omega), if_neg q2]
        cases qc : cut w h x.1 (yk k) (8 * ys k + yf k)
        · rw [c_strike_f C (s := yk k) (by omega) (fun p hp => by rw [hy] at hp; simp only [decide_eq_true_eq] at hp; rw [hp]; exact qc), obind]
          exact ⟨I, L, rfl, FC.rf, FK.rf, C, fun _ _ => rfl⟩
        · obtain ⟨J, M, e, F1, F2, C2, h7⟩ := c_strike_t C (s := yk k) (by omega) hy qc
          rw [e, obind]
          exact ⟨J, M, rfl, F1, F2, C2, h7⟩
    · rw [if_neg (show ¬ (yk k = 3 ∨ (yf k < w ∧ ys k < h)) by omega)]
      have z0 : FX3_bitAt I L 44 (zI (yf k : Nat)) (zI (ys k : Nat)) = 0 := by
        unfold FX3_bitAt FX3_bitAt_j24
        rw [C.1.1, C.1.2.1]
        simp (disch := omega) only [zlet, obind, zI_lit, zI_neg, zI_add, zI_sub, zI_mul, zI_div, zI_le, zI_lt, zI_eq, zI_cl, irem, ile_t, ile_f, ilt_t, ilt_f, ieq_t, ieq_f, and_true, true_and, and_false, false_and, and_self, not_true_eq_false, not_false_eq_true, ↓reduceIte, Int.toNat_natCast, tqb_z, tqb_t, tqb_f]
        by_cases q2 : w ≤ yf k
        · rw [if_pos (show (w : Int) ≤ (yf k : Int) by omega)]
        · rw [if_neg (show ¬ (w : Int) ≤ (yf k : Int) by omega)]
      rw [z0]
      by_cases q2 : yk k = 2
      · rw [if_pos (by rw [zI_lit, zI_eq (by omega) (by omega)]; omega), c_prop_f C (fun p hp => by rw [bb_0] at hp; cases hp)]
        exact ⟨I, L, rfl, FC.rf, FK.rf, C, fun _ _ => rfl⟩
      · rw [if_neg (by rw [zI_lit, zI_eq (by omega) (by omega)]; omega), c_strike_f C (s := yk k) (by omega) (fun p hp => by rw [bb_0] at hp; cases hp), obind]
        exact ⟨I, L, rfl, FC.rf, FK.rf, C, fun _ _ => rfl⟩
end YA
/-- the first n deeds, or those up to the first that can't be -/
noncomputable def drn (w h : Nat) (yk yf ys : Nat → Nat) (x : Yst) : Nat → Nat × Yst
  | 0 => (0, x)
  | n + 1 => if (drn w h yk yf ys x n).1 = n then (if (tld w h (yk n) (yf n) (ys n) (drn w h yk yf ys x n).2).isSome then n + 1 else n, (tld w h (yk n) (yf n) (ys n) (drn w h yk yf ys x n).2).getD (drn w h yk yf ys x n).2) else drn w h yk yf ys x n
theorem drn_s (w h : Nat) (yk yf ys : Nat → Nat) (x : Yst) (n : Nat) : drn w h yk yf ys x (n + 1) = if (drn w h yk yf ys x n).1 = n then (if (tld w h (yk n) (yf n) (ys n) (drn w h yk yf ys x n).2).isSome then n + 1 else n, (tld w h (yk n) (yf n) (ys n) (drn w h yk yf ys x n).2).getD (drn w h yk yf ys x n).2) else drn w h yk yf ys x n := rfl
theorem drn_le (w h : Nat) (yk yf ys : Nat → Nat) (x : Yst) : ∀ n, (drn w h yk yf ys x n).1 ≤ n
  | 0 => Nat.le_refl _
  | n + 1 => by
    have := drn_le w h yk yf ys x n
    rw [drn_s]
    split
    · dsimp only
      split <;> omega
    · omega
theorem drn_stop {w h : Nat} {yk yf ys : Nat → Nat} {x : Yst} {k : Nat} (h1 : (drn w h yk yf ys x k).1 = k) (h2 : (tld w h (yk k) (yf k) (ys k) (drn w h yk yf ys x k).2) = none) : ∀ n, k + 1 ≤ n → drn w h yk yf ys x n = (k, (drn w h yk yf ys x k).2) := by
  intro n hn
  induction n with
  | zero => omega
  | succ n ih =>
    by_cases q : n = k
    · rw [q, drn_s, if_pos h1, h2]
      simp
    · rw [drn_s, ih (by omega), if_neg (by dsimp only; omega)]
