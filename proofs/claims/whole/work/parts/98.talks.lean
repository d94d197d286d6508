/-! TALKS: a talk in both; the queries deepest and plain. -/
def TD (I : tq_PI) (y : Nat) (A : Nat → Int32) (o m : Nat) (tw : Nat → Nat) : Prop := m ≤ 8 ∧ I y 0 = zI (m : Int) ∧ A o = zI (m : Int) ∧ ∀ k, k < m → tw k ≤ 99 ∧ I (y + 1) k = zI (tw k : Nat) ∧ A (o + 1 + k) = zI (tw k : Nat)
def TV (I : tq_PI) (b o : Nat) : Prop := ∃ m : Nat, m ≤ 2 ∧ I 137 (o + 3) = zI (m : Int) ∧ I (b + 2) 3 = zI (m : Int) ∧ ∀ i, i < m → ∃ n tw, TD I (b + 15 + 10 * i) (fun j => I 137 (o + j)) (986 + 9 * i) n tw
theorem rg_1_8 : tq_rg 1 8 = 7 := by decide +kernel
theorem rg_7 : ∀ i, i < 2 → tq_rg 7 i = 16 + 10 * i := by decide +kernel
theorem rg_t : ∀ i, i < 2 → tq_rg (16 + 10 * i) 1 = 16 + 10 * i + 1 := by decide +kernel
/-- a talk in both -/
theorem talk_case {I : tq_PI} (V : TV I 1 0) (x : Int32) : (∀ L, FX0_talkAt I L 1 x = some none ∧ ∀ J M, J 137 = I 137 → FX12_isOf J M 136 3 x = some false) ∨ ∃ (i n : Nat) (tw : Nat → Nat), i < 2 ∧ x = zI (i : Int) ∧ (∀ L, FX0_talkAt I L 1 x = some (some (16 + 10 * i))) ∧ TD I (16 + 10 * i) (I 137) (986 + 9 * i) n tw ∧ ∀ J M, J 137 = I 137 → FX12_isOf J M 136 3 x = some true ∧ FX12_placeOf J M 3 x = zI ((986 + 9 * i : Nat) : Int) := by
  obtain ⟨m, hm2, hm, hm3, hV⟩ := V
  obtain ⟨z, hz, rfl⟩ := zI_of x
  by_cases q : 0 ≤ z ∧ z < m
  · obtain ⟨i, rfl⟩ : ∃ i : Nat, z = i := ⟨z.toNat, by omega⟩
    obtain ⟨n, tw, D⟩ := hV i (by omega)
    have eA : (fun j => I 137 (0 + j)) = I 137 := funext fun j => by rw [Nat.zero_add]
    rw [eA, show 1 + 15 + 10 * i = 16 + 10 * i by omega] at D
    refine Or.inr ⟨i, n, tw, by omega, rfl, fun L => ?_, D, fun J M hJ => ⟨?_, ?_⟩⟩
    · unfold FX0_talkAt FX0_countOf
      simp (disch := omega) only [zlet, obind, zI_lit, zI_neg, zI_add, zI_sub, zI_mul, zI_div, zI_le, zI_lt, zI_eq, zI_cl, irem, ile_t, ile_f, ilt_t, ilt_f, ieq_t, ieq_f, and_true, true_and, and_false, false_and, and_self, not_true_eq_false, not_false_eq_true, ↓reduceIte, Int.toNat_natCast, tqb_z, tqb_t, tqb_f, rg_1_4, rg_1_8, hm3, show (3 : Int).toNat = 3 from rfl]
      rw [rg_7 i (by omega)]
    · refine (r_isOf (J := J) M (s := 3) (by omega) (by rw [hJ]; exact hm) hm2 (z := (i : Int)) (by omega)).trans ?_
      congr 1
      rw [decide_eq_true_eq]
      omega
    · unfold FX12_placeOf
      simp (disch := omega) only [zlet, obind, zI_lit, zI_neg, zI_add, zI_sub, zI_mul, zI_div, zI_le, zI_lt, zI_eq, zI_cl, irem, ile_t, ile_f, ilt_t, ilt_f, ieq_t, ieq_f, and_true, true_and, and_false, false_and, and_self, not_true_eq_false, not_false_eq_true, ↓reduceIte, Int.toNat_natCast, tqb_z, tqb_t, tqb_f]
  · refine Or.inl fun L => ⟨?_, fun J M hJ => ?_⟩
    · unfold FX0_talkAt FX0_talkAt_j22 FX0_countOf
      simp (disch := omega) only [zlet, obind, zI_lit, zI_neg, zI_add, zI_sub, zI_mul, zI_div, zI_le, zI_lt, zI_eq, zI_cl, irem, ile_t, ile_f, ilt_t, ilt_f, ieq_t, ieq_f, and_true, true_and, and_false, false_and, and_self, not_true_eq_false, not_false_eq_true, ↓reduceIte, Int.toNat_natCast, tqb_z, tqb_t, tqb_f, rg_1_4, hm3, show (3 : Int).toNat = 3 from rfl]
      by_cases q1 : z < 0
      · rw [if_pos q1]
      · rw [if_neg q1]
    · refine (r_isOf (J := J) M (s := 3) (by omega) (by rw [hJ]; exact hm) hm2 hz).trans ?_
      congr 1
      rw [decide_eq_false_iff_not]
      exact q
/-! deepest -/
def fi : Nat → Nat × Nat
  | 0 => (1, 1)
  | k + 1 => ((fi k).2, (fi k).1 + (fi k).2)
theorem fi_le : ∀ k, k ≤ 5 → (fi k).1 ≤ 13 ∧ (fi k).2 ≤ 13 := by decide
def Dep (n : Nat) (v : Int) : Prop := ∃ k : Nat, v = ((k + 1 : Nat) : Int) ∧ n ≤ (fi k).2 ∧ ∀ j, j < k → (fi j).2 < n
theorem Dep_one {n : Nat} {u v : Int} (a : Dep n u) (b : Dep n v) : u = v := by
  obtain ⟨k, rfl, k1, k2⟩ := a
  obtain ⟨l, rfl, l1, l2⟩ := b
  have : k = l := by
    rcases Nat.lt_trichotomy k l with h | h | h
    · have := l2 k h; omega
    · exact h
    · have := k2 l h; omega
  rw [this]
theorem c_depth (I : tq_PI) (L : tq_PL) {n : Nat} (hn : 1 ≤ n ∧ n ≤ 8) : ∃ v, FX11_shallowestDepth I L (zI (n : Int)) = some (zI v) ∧ Dep n v := by
  obtain ⟨b, e, v, rfl, hv⟩ := it_for (f := fun p : Int32 × Int32 × Int32 × Int32 => FX11_shallowestDepth_s16 I L (zI (n : Int)) p.1 p.2.1 p.2.2.1 p.2.2.2) (fun k (_ : Unit) => (zI ((fi k).1 : Nat), zI ((fi k).2 : Nat), zI ((k + 1 : Nat) : Int), zI (k : Int))) 4 (fun k _ => ∀ j, j < k → (fi j).2 < n) (Post := fun b => ∃ v, b = zI v ∧ Dep n v) (fun k _ hk h => by
    have := fi_le k (by omega)
    unfold FX11_shallowestDepth_s16
    simp (disch := omega) only [zlet, obind, zI_lit, zI_neg, zI_add, zI_sub, zI_mul, zI_div, zI_le, zI_lt, zI_eq, zI_cl, irem, ile_t, ile_f, ilt_t, ilt_f, ieq_t, ieq_f, and_true, true_and, and_false, false_and, and_self, not_true_eq_false, not_false_eq_true, ↓reduceIte, Int.toNat_natCast, tqb_z, tqb_t, tqb_f]
    by_cases q : (n : Int) ≤ ((fi k).2 : Nat)
    · rw [if_pos q]
      exact Or.inr ⟨_, rfl, _, rfl, k, rfl, by omega, h⟩
    · rw [if_neg q]
      refine Or.inl ⟨(), rfl, fun j hj => ?_⟩
      by_cases e : j = k
      · subst e; omega
      · exact h j (by omega)) (fun _ h => by
    have e8 : (fi 4).2 = 8 := rfl
    have e5 : (fi 4).1 = 5 := rfl
    unfold FX11_shallowestDepth_s16
    dsimp only
    rw [e8, e5]
    simp (disch := omega) only [zlet, obind, zI_lit, zI_neg, zI_add, zI_sub, zI_mul, zI_div, zI_le, zI_lt, zI_eq, zI_cl, irem, ile_t, ile_f, ilt_t, ilt_f, ieq_t, ieq_f, and_true, true_and, and_false, false_and, and_self, not_true_eq_false, not_false_eq_true, ↓reduceIte, Int.toNat_natCast, tqb_z, tqb_t, tqb_f]
    exact ⟨_, rfl, _, rfl, 4, rfl, by omega, h⟩) 0 () (by omega) (by omega) (fun j hj => by omega)
  refine ⟨v, ?_, hv⟩
  have e' : tq_it (fun p : Int32 × Int32 × Int32 × Int32 => FX11_shallowestDepth_s16 I L (zI (n : Int)) p.1 p.2.1 p.2.2.1 p.2.2.2) tq_N ((1 : Int32), (1 : Int32), (1 : Int32), (0 : Int32)) = some (zI v) := e
  unfold FX11_shallowestDepth
  rw [e', if_pos, obind]
  rw [show (1 : Int32) = zI 1 from rfl, zI_le (by omega) (by omega)]
  omega
theorem r_depth (I : tq_PI) (L : tq_PL) {n : Nat} (hn : 1 ≤ n ∧ n ≤ 8) : ∃ v, tq_it (fun p : Int32 × Int32 × Int32 => FX12_deepest_s37 I L (zI (n : Int)) p.1 p.2.1 p.2.2) tq_N ((1 : Int32), (1 : Int32), (1 : Int32)) = some (zI v) ∧ Dep n v := by
  obtain ⟨b, e, v, rfl, hv⟩ := it_for (f := fun p : Int32 × Int32 × Int32 => FX12_deepest_s37 I L (zI (n : Int)) p.1 p.2.1 p.2.2) (fun k (_ : Unit) => (zI ((fi k).2 : Nat), zI ((fi k).1 : Nat), zI ((k + 1 : Nat) : Int))) 4 (fun k _ => ∀ j, j < k → (fi j).2 < n) (Post := fun b => ∃ v, b = zI v ∧ Dep n v) (fun k _ hk h => by
    have := fi_le k (by omega)
    unfold FX12_deepest_s37
    simp (disch := omega) only [zlet, obind, zI_lit, zI_neg, zI_add, zI_sub, zI_mul, zI_div, zI_le, zI_lt, zI_eq, zI_cl, irem, ile_t, ile_f, ilt_t, ilt_f, ieq_t, ieq_f, and_true, true_and, and_false, false_and, and_self, not_true_eq_false, not_false_eq_true, ↓reduceIte, Int.toNat_natCast, tqb_z, tqb_t, tqb_f]
    by_cases q : (n : Int) ≤ ((fi k).2 : Nat)
    · rw [if_pos q]
      exact Or.inr ⟨_, rfl, _, rfl, k, rfl, by omega, h⟩
    · rw [if_neg q]
      refine Or.inl ⟨(), ?_, fun j hj => ?_⟩
      · have e : ((fi k).2 : Int) + ((fi k).1 : Nat) = (((fi k).1 + (fi k).2 : Nat) : Int) := by omega
        rw [e]; rfl
      · by_cases e : j = k
        · subst e; omega
        · exact h j (by omega)) (fun _ h => by
    have e8 : (fi 4).2 = 8 := rfl
    have e5 : (fi 4).1 = 5 := rfl
    unfold FX12_deepest_s37
    dsimp only
    rw [e8, e5]
    simp (disch := omega) only [zlet, obind, zI_lit, zI_neg, zI_add, zI_sub, zI_mul, zI_div, zI_le, zI_lt, zI_eq, zI_cl, irem, ile_t, ile_f, ilt_t, ilt_f, ieq_t, ieq_f, and_true, true_and, and_false, false_and, and_self, not_true_eq_false, not_false_eq_true, ↓reduceIte, Int.toNat_natCast, tqb_z, tqb_t, tqb_f]
    exact ⟨_, rfl, _, rfl, 4, rfl, by omega, h⟩) 0 () (by omega) (by omega) (fun j hj => by omega)
  exact ⟨v, e, hv⟩
theorem q_deepest {I : tq_PI} {L : tq_PL} (Y : TV I 1 0) (y : Int32) : ∃ v, FX11_deepest I L 0 y = some v ∧ ∀ J M, J 137 = I 137 → FX12_deepest J M 136 y = some v := by
  rcases talk_case Y y with q | ⟨j, n, tw, hj, rfl, ey, D, ry⟩
  · refine ⟨-1, by unfold FX11_deepest; rw [rg_0_0, (q L).1, obind]; rfl, fun J M hJ => by unfold FX12_deepest; rw [(q L).2 J M hJ, obind]; rfl⟩
  · have hn := D.1
    have mO : ∀ J : tq_PI, J 137 = I 137 → J 137 (986 + 9 * j) = zI (n : Int) := fun J hJ => by rw [hJ]; exact D.2.2.1
    unfold FX11_deepest
    simp only [rg_0_0, ey L, obind, oel_s, D.2.1]
    by_cases h1 : 1 ≤ n
    · obtain ⟨v, e, hv⟩ := c_depth I L (n := n) ⟨h1, hn⟩
      refine ⟨zI v, by rw [e]; rfl, fun J M hJ => ?_⟩
      obtain ⟨v2, e2, hv2⟩ := r_depth J M (n := n) ⟨h1, hn⟩
      have ev := Dep_one hv hv2
      subst ev
      obtain ⟨r1, r2⟩ := ry J M hJ
      unfold FX12_deepest
      rw [r1, obind, if_neg tb1, zlet, r2]
      have en : ((986 + 9 * j : Nat) : Int).toNat = 986 + 9 * j := by omega
      rw [zI_cl (by omega), en, g0, mO J hJ, e2, obind]
      rw [if_pos ⟨by rw [show (0 : Int32) = zI 0 from rfl, zI_le (by omega) (by omega)]; omega, by rw [show (4016 : Int32) = zI 4016 from rfl, zI_lt (by omega) (by omega)]; omega⟩]
      by_cases h2 : 2 ≤ n
      · rw [if_pos (by rw [show (2 : Int32) = zI 2 from rfl, zI_le (by omega) (by omega)]; omega)]
      · rw [if_neg (by rw [show (2 : Int32) = zI 2 from rfl, zI_le (by omega) (by omega)]; omega)]
        have n1 : n = 1 := by omega
        subst n1
        rw [Dep_one hv ⟨0, rfl, by decide, fun j hj => by omega⟩]
    · have n0 : n = 0 := by omega
      subst n0
      refine ⟨zI 0, ?_, fun J M hJ => ?_⟩
      · unfold FX11_shallowestDepth
        rw [if_neg (by decide)]
        rfl
      · obtain ⟨r1, r2⟩ := ry J M hJ
        unfold FX12_deepest
        rw [r1, obind, if_neg tb1, zlet, r2]
        have en : ((986 + 9 * j : Nat) : Int).toNat = 986 + 9 * j := by omega
        rw [zI_cl (by omega), en, g0, mO J hJ]
        rw [if_pos ⟨by rw [show (0 : Int32) = zI 0 from rfl, zI_le (by omega) (by omega)]; omega, by rw [show (4016 : Int32) = zI 4016 from rfl, zI_lt (by omega) (by omega)]; omega⟩, if_neg (by decide)]
        rfl
