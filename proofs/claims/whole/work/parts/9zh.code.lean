/-! TALKS, CODE: the ranks; the class's sorting; the code by the class. -/
theorem rnk_lt {m : Nat} {f : Nat → Nat} {x : Nat} (hx : x < m) : rnk m f x ≤ m := by
  have h1 := fb_ct_le (fun t => decide (f x < f t ∨ (f t = f x ∧ t < x))) m
  have h2 : fb_ct (fun t => decide (f x < f t ∨ (f t = f x ∧ t < x))) m ≠ m := fun e => by
    have := fb_ct_all.1 e x hx
    rw [decide_eq_true_eq] at this
    omega
  unfold rnk
  omega
theorem rnk_mo {m : Nat} {f : Nat → Nat} {x y : Nat} (hy : y < m) (h : f x < f y ∨ (f y = f x ∧ y < x)) : rnk m f y < rnk m f x := by
  have u := fb_ct_upd (fun t => decide (f y < f t ∨ (f t = f y ∧ t < y))) true hy
  have s := fb_ct_sub (p := fun k => if k = y then true else decide (f y < f k ∨ (f k = f y ∧ k < y))) (q := fun t => decide (f x < f t ∨ (f t = f x ∧ t < x))) (n := m) (fun k _ hk => by
    rw [decide_eq_true_eq]
    by_cases e : k = y
    · subst e; exact h
    · rw [if_neg e, decide_eq_true_eq] at hk
      omega)
  rw [if_neg (by rw [decide_eq_true_eq]; omega), if_pos rfl] at u
  unfold rnk
  omega
theorem rnk_in {m : Nat} {f : Nat → Nat} {x y : Nat} (hx : x < m) (hy : y < m) (e : rnk m f x = rnk m f y) : x = y := by
  by_cases q : f x < f y ∨ (f y = f x ∧ y < x)
  · have := rnk_mo (x := x) hy q; omega
  · by_cases r : f y < f x ∨ (f x = f y ∧ x < y)
    · have := rnk_mo (x := y) hx r; omega
    · omega
theorem rnk_ge {m : Nat} {f : Nat → Nat} {x : Nat} : 1 ≤ rnk m f x := by unfold rnk; omega
theorem rnk_RK (m : Nat) (f : Nat → Nat) : (∃ wd, RK m (fun x => rnk m f x - 1) wd) ∧ ∀ x y, x < m → y < m → rnk m f x - 1 ≤ rnk m f y - 1 → f y ≤ f x := by
  refine ⟨RK_of (fun x hx => ?_) (fun x y hx hy e => ?_), fun x y hx hy e => ?_⟩
  · have := rnk_lt (f := f) hx
    have := rnk_ge (m := m) (f := f) (x := x)
    omega
  · have := rnk_ge (m := m) (f := f) (x := x)
    have := rnk_ge (m := m) (f := f) (x := y)
    exact rnk_in (f := f) hx hy (by omega)
  · have := rnk_ge (m := m) (f := f) (x := x)
    have := rnk_ge (m := m) (f := f) (x := y)
    by_cases q : f x < f y
    · have := rnk_mo (m := m) (x := x) hy (Or.inl q)
      omega
    · omega
theorem TD.fc {I J : tq_PI} {y o m b : Nat} {A : Nat → Int32} {tw : Nat → Nat} (D : TD I y A o m tw) (F : FC b I J) (h1 : y ≠ b) (h2 : y + 1 ≠ b) : TD J y A o m tw := by
  obtain ⟨d1, d2, d3, d4⟩ := D
  refine ⟨d1, by rw [F y h1]; exact d2, d3, fun k hk => ?_⟩
  rw [F (y + 1) h2]
  exact d4 k hk
theorem c_sort {I : tq_PI} {L : tq_PL} {i o m : Nat} {A : Nat → Int32} {tw : Nat → Nat} (hi : i < 2) (D : TD I (16 + 10 * i) A o m tw) (h1 : I 52 1 = zI (m : Int)) : ∃ J, FX1_sort I L 52 (16 + 10 * i) = some J ∧ FC 53 I J ∧ ∀ x, x < m → J 53 (rnk m tw x - 1) = zI (tw x : Nat) := by
  have m8 := D.1
  obtain ⟨J, e, F, G⟩ := it_for (f := fun p : Int32 × tq_PI => FX1_sort_s2 p.2 L 52 (16 + 10 * i) p.1) (fun k (s : tq_PI) => (zI (k : Int), s)) m (fun k J => FC 53 I J ∧ ∀ x, x < k → J 53 (rnk m tw x - 1) = zI (tw x : Nat)) (Post := fun J => FC 53 I J ∧ ∀ x, x < m → J 53 (rnk m tw x - 1) = zI (tw x : Nat)) (fun k J hk hJ => by
    obtain ⟨F, G⟩ := hJ
    have DJ := D.fc F (by omega) (by omega)
    have e1 := c_rank hi DJ hk L
    have e2 := c_often hi DJ hk L
    have r1 := rnk_ge (m := m) (f := tw) (x := k)
    have r2 := rnk_lt (f := tw) hk
    have j1 : J 52 1 = zI (m : Int) := by rw [F 52 (by omega)]; exact h1
    have en : (((rnk m tw k : Nat) : Int) - 1).toNat = rnk m tw k - 1 := by omega
    refine Or.inl ⟨tq_up2 J 53 (rnk m tw k - 1) (zI (tw k : Nat)), ?_, F.tr FC.up, fun x hx => ?_⟩
    · unfold FX1_sort_s2 FX1_sort_j43L2
      simp only [e1, e2, obind, j1]
      rw [if_neg (by rw [zI_le (by omega) (by omega)]; omega), if_neg (by rw [zI_lit, zI_lt (by omega) (by omega)]; omega), if_neg (by rw [zI_lit, zI_lt (by omega) (by omega)]; omega), show (1 : Int32) = zI 1 from rfl, zI_sub, zI_add, if_pos ⟨by rw [show (0 : Int32) = zI 0 from rfl, zI_le (by omega) (by omega)]; omega, by rw [zI_lit, zI_lt (by omega) (by omega)]; omega⟩, rg_52_0, zI_cl (by omega), en]
      rfl
    · by_cases q : x = k
      · subst q; rw [up_s]
      · have rx := rnk_ge (m := m) (f := tw) (x := x)
        rw [up_n _ _ (Or.inr (fun g => q (rnk_in (m := m) (f := tw) (by omega) hk (by omega))))]
        exact G x (by omega)) (fun J hJ => ⟨J, by
    have j1 : J 52 1 = zI (m : Int) := by rw [hJ.1 52 (by omega)]; exact h1
    unfold FX1_sort_s2
    dsimp only
    rw [if_pos (by rw [j1, zI_le (by omega) (by omega)]; omega)], hJ⟩) 0 I (by omega) (by omega) ⟨FC.rf, fun x hx => by omega⟩
  refine ⟨J, ?_, F, G⟩
  have e' : tq_it (fun p : Int32 × tq_PI => FX1_sort_s2 p.2 L 52 (16 + 10 * i) p.1) tq_N ((0 : Int32), I) = some J := e
  unfold FX1_sort
  rw [e', obind]
/-- how often each word is told, none beyond the last -/
def tz (m : Nat) (tw : Nat → Nat) (x : Nat) : Nat := if x < m then tw x else 0
theorem rnk_tz {m : Nat} {tw : Nat → Nat} {x : Nat} (hx : x < m) : rnk m (tz m tw) x = rnk m tw x := by
  unfold rnk
  congr 1
  apply fb_ct_cong
  intro k hk
  unfold tz
  rw [if_pos hx, if_pos hk]
theorem c_code {I : tq_PI} {L : tq_PL} {i o m : Nat} {A : Nat → Int32} {tw : Nat → Nat} (hi : i < 2) (D : TD I (16 + 10 * i) A o m tw) : ∃ (v : Nat) (J : tq_PI), FX1_cheapest I L 52 (16 + 10 * i) = some (zI (v : Int), J) ∧ FP I J ∧ (m = 0 → v = 0) ∧ (m = 1 → v = tw 0) ∧ (2 ≤ m → ∀ T, KT m (tz m tw) T → v = T (2 ^ m - 1)) := by
  have m8 := D.1
  obtain ⟨⟨wd, Q⟩, ho⟩ := rnk_RK m (tz m tw)
  have hf : ∀ x, tz m tw x ≤ 99 := fun x => by
    unfold tz
    split
    · exact (D.2.2.2 x (by assumption)).1
    · omega
  have F0 : FC 52 I (tq_up2 I 52 1 (zI (m : Int))) := FC.up
  obtain ⟨J, e, F, G⟩ := c_sort (I := tq_up2 I 52 1 (zI (m : Int))) (L := L) hi (D.fc F0 (by omega) (by omega)) (up_s _ _ _ _)
  have j1 : J 52 1 = zI (m : Int) := by rw [F 52 (by omega), up_s]
  have C : CT J m (tz m tw) wd := by
    refine ⟨m8, j1, fun k hk => ?_, hf⟩
    obtain ⟨w1, w2⟩ := Q.1 k hk
    dsimp only at w2
    rw [rnk_tz w1] at w2
    have g := G (wd k) w1
    rw [w2] at g
    rw [g]
    unfold tz
    rw [if_pos w1]
  have p : FP I J := (F0.fp (by unfold psl; omega)).tr (F.fp (by unfold psl; omega))
  have ei : (if (8 : Int32) < I (16 + 10 * i) 0 then (8 : Int32) else I (16 + 10 * i) 0) = zI (m : Int) := by
    rw [D.2.1, if_neg (by rw [zI_lit, zI_lt (by omega) (by omega)]; omega)]
  by_cases q : 2 ≤ m
  · refine ⟨Cq m (rsq m (tz m tw) wd) 17 0 1 0, J, ?_, p, by omega, by omega, fun _ T K => Cq_is K Q ho hf ⟨by omega, m8⟩⟩
    have ec := c_cost (L := L) C 17 tq_n20 0 1 0 (by rw [tq_n20_eq]; omega) (by omega) (by omega) (by omega) (by omega)
    have ec' : FX1_cost tq_n20 J L 52 (0 : Int32) (1 : Int32) (0 : Int32) (0 : Int32) = some (zI (Cq m (rsq m (tz m tw) wd) 17 0 1 0 : Nat)) := ec
    unfold FX1_cheapest
    rw [ei, e, obind, j1, if_pos (by rw [zI_lit, zI_le (by omega) (by omega)]; omega), ec', obind]
  · have er := c_rest (L := L) C (d := 0) (by omega)
    have er' : FX1_rest J L 52 (0 : Int32) = some (zI (rsq m (tz m tw) wd 0 : Nat)) := er
    refine ⟨rsq m (tz m tw) wd 0, J, ?_, p, fun h => ?_, fun h => ?_, fun h => absurd h q⟩
    · unfold FX1_cheapest
      rw [ei, e, obind, j1, if_neg (by rw [zI_lit, zI_le (by omega) (by omega)]; omega), er', obind]
    · subst h; rfl
    · subst h
      have w0 : wd 0 = 0 := by have := (Q.1 0 (by omega)).1; omega
      show 0 + (if 0 ≤ 0 then tz 1 tw (wd 0) else 0) = tw 0
      rw [w0]
      simp [tz]
