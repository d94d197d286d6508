/-! YEARS: the query after. -/
noncomputable def rvs (w h k : Nat) (x x2 : Yst) (e : Int × Int × Nat) : Int × Int × Nat := (if e.1 = -1 ∧ thk w h x2.1 = 0 then (k : Int) + 1 else e.1, if e.2.2 < x2.2 4 - x.2 4 then (k : Int) else e.2.1, if e.2.2 < x2.2 4 - x.2 4 then x2.2 4 - x.2 4 else e.2.2)
noncomputable def rve (w h : Nat) (yk yf ys : Nat → Nat) (x : Yst) : Nat → Int × Int × Nat
  | 0 => (if thk w h x.1 = 0 then 0 else -1, -1, 0)
  | n + 1 => if (drn w h yk yf ys x n).1 = n ∧ (tld w h (yk n) (yf n) (ys n) (drn w h yk yf ys x n).2).isSome = true then rvs w h n (drn w h yk yf ys x n).2 (drn w h yk yf ys x (n + 1)).2 (rve w h yk yf ys x n) else rve w h yk yf ys x n
theorem rve_s (w h : Nat) (yk yf ys : Nat → Nat) (x : Yst) (n : Nat) : rve w h yk yf ys x (n + 1) = if (drn w h yk yf ys x n).1 = n ∧ (tld w h (yk n) (yf n) (ys n) (drn w h yk yf ys x n).2).isSome = true then rvs w h n (drn w h yk yf ys x n).2 (drn w h yk yf ys x (n + 1)).2 (rve w h yk yf ys x n) else rve w h yk yf ys x n := rfl
theorem rve_stop {w h : Nat} {yk yf ys : Nat → Nat} {x : Yst} {k : Nat} (h1 : (drn w h yk yf ys x k).1 = k) (h2 : (tld w h (yk k) (yf k) (ys k) (drn w h yk yf ys x k).2) = none) : ∀ n, k ≤ n → rve w h yk yf ys x n = rve w h yk yf ys x k := by
  intro n hn
  induction n with
  | zero => rw [show k = 0 by omega]
  | succ n ih =>
    by_cases q : n + 1 = k
    · rw [q]
    · rw [rve_s, if_neg, ih (by omega)]
      rintro ⟨a, b⟩
      by_cases r : n = k
      · rw [r, h2] at b; cases b
      · rw [drn_stop h1 h2 n (by omega)] at a
        dsimp only at a
        omega
theorem tld_lost {w h d f s : Nat} {x x2 : Yst} (hd : d ≤ 3) (e : tld w h d f s x = some x2) : x.2 4 ≤ x2.2 4 ∧ x2.2 4 ≤ x.2 4 + 64 := by
  unfold tld at e
  split at e
  · unfold done1 at e
    split at e
    · cases e
      unfold dkn vup
      simp
    · split at e
      · split at e
        · cases e
          unfold dpr
          simp
        · cases e
      · split at e
        · cases e
          have := los_le h x.1 (8 * s + f)
          unfold dct vup
          dsimp only
          rw [if_pos rfl, if_neg (by omega), if_neg (by omega)]
          omega
        · cases e
  · cases e
theorem drn_lost (w h : Nat) (yk yf ys : Nat → Nat) (K : Nat → Nat) {m : Nat} (hy : ∀ k, k < m → yk k ≤ 3) : ∀ n, n ≤ m → (drn w h yk yf ys (K, z6) n).2.2 4 ≤ 64 * n
  | 0, _ => Nat.le_refl _
  | n + 1, hn => by
    have := drn_lost w h yk yf ys K hy n (by omega)
    rw [drn_s]
    split
    · dsimp only
      cases e : tld w h (yk n) (yf n) (ys n) (drn w h yk yf ys (K, z6) n).2 with
      | none => simp; omega
      | some x2 =>
        have := tld_lost (hy n (by omega)) e
        simp
        omega
    · omega
theorem rve_most (w h : Nat) (yk yf ys : Nat → Nat) (K : Nat → Nat) {m : Nat} (hy : ∀ k, k < m → yk k ≤ 3) : ∀ n, n ≤ m → (rve w h yk yf ys (K, z6) n).2.2 ≤ 64 * n
  | 0, _ => Nat.le_refl _
  | n + 1, hn => by
    have h1 := rve_most w h yk yf ys K hy n (by omega)
    have h2 := drn_lost w h yk yf ys K hy (n + 1) hn
    rw [rve_s]
    split
    · unfold rvs
      dsimp only
      split <;> omega
    · omega
section AF
variable {w h i o m : Nat} {K : Nat → Nat} {yk yf ys : Nat → Nat} {A : Nat → Int32}
theorem rve_eye : ∀ n, -1 ≤ (rve w h yk yf ys (K, z6) n).1 ∧ (rve w h yk yf ys (K, z6) n).1 ≤ n
  | 0 => by unfold rve; dsimp only; split <;> omega
  | n + 1 => by
    have := rve_eye n
    rw [rve_s]
    split
    · unfold rvs
      dsimp only
      split <;> omega
    · omega
theorem c_review {I : tq_PI} {L : tq_PL} {a : Nat} (H : HC I L a w h K) (q : a ≠ 44) (q2 : a ≠ 43) (hi : i < 2) (D : YD I (9 + 10 * i) A o m yk yf ys) : ∃ J M, FX8_review I L 43 a (9 + 10 * i) = some (J, M) ∧ FP I J ∧ FP L M ∧ J 43 7 = zI (rve w h yk yf ys (K, z6) m).1 ∧ J 43 8 = zI (rve w h yk yf ys (K, z6) m).2.1 ∧ J 43 9 = zI ((rve w h yk yf ys (K, z6) m).2.2 : Nat) := by
  obtain ⟨F0, G0, C0⟩ := c_open8 H q q2
  have hm := D.1
  have hyk : ∀ k, k < m → yk k ≤ 3 := fun k hk => (D.2.2.2 k hk).1
  generalize hO : FX8_open I L 43 a = O at *
  obtain ⟨r, er, fr⟩ := c_thick C0.1 (c_sol C0.1) (sb_rf _) C0.1.z
  have hth := thk_eq fr
  have et := c_through C0.1 fr
  have loop : ∀ b0 : Int, b0 = (rve w h yk yf ys (K, z6) 0).1 → ∃ J M, FX8_review_j21 O.1 O.2 43 (9 + 10 * i) (zI b0) 43 = some (J, M) ∧ FP I J ∧ FP L M ∧ J 43 7 = zI (rve w h yk yf ys (K, z6) m).1 ∧ J 43 8 = zI (rve w h yk yf ys (K, z6) m).2.1 ∧ J 43 9 = zI ((rve w h yk yf ys (K, z6) m).2.2 : Nat) := fun b0 hb0 => by
    have C1 : SC (tq_up2 (tq_up2 (tq_up2 O.1 43 7 (zI b0)) 43 8 (zI (-1))) 43 9 (zI 0)) O.2 w h (K, z6) := ⟨C0.1.fi ((FC.up.tr FC.up).tr FC.up) (by omega), fun j hj => by
      rw [up_n _ _ (by omega), up_n _ _ (by omega), up_n _ _ (by omega)]
      exact C0.2 j hj⟩
    have F1 : F34 I (tq_up2 (tq_up2 (tq_up2 O.1 43 7 (zI b0)) 43 8 (zI (-1))) 43 9 (zI 0)) := F0.tr (((FC.up (b := 43)).tr FC.up).tr FC.up).f34
    obtain ⟨o1, e1, ho⟩ := it_for (f := fun p : Int32 × tq_PI × tq_PL => FX8_review_s36 p.2.1 p.2.2 43 (9 + 10 * i) p.1) (fun k (s : tq_PI × tq_PL) => (zI (k : Int), s.1, s.2)) m (fun k s => F34 I s.1 ∧ FL 44 L s.2 ∧ (drn w h yk yf ys (K, z6) k).1 = k ∧ SC s.1 s.2 w h (drn w h yk yf ys (K, z6) k).2 ∧ s.1 43 7 = zI (rve w h yk yf ys (K, z6) k).1 ∧ s.1 43 8 = zI (rve w h yk yf ys (K, z6) k).2.1 ∧ s.1 43 9 = zI ((rve w h yk yf ys (K, z6) k).2.2 : Nat)) (Post := fun b => ∃ J M, (b = .inl (J, M) ∨ b = .inr (J, M)) ∧ F34 I J ∧ FL 44 L M ∧ J 43 7 = zI (rve w h yk yf ys (K, z6) m).1 ∧ J 43 8 = zI (rve w h yk yf ys (K, z6) m).2.1 ∧ J 43 9 = zI ((rve w h yk yf ys (K, z6) m).2.2 : Nat)) (fun k s hk hs => by
      obtain ⟨I1, L1⟩ := s
      obtain ⟨s1, s2, s3, s4, s5, s6, s7⟩ := hs
      dsimp only at s1 s2 s4 s5 s6 s7 ⊢
      have D1 := D.f34 hi s1
      obtain ⟨J, M, e, f1, f2, c2, h7⟩ := c_act s4 hi D1 (k := k) hk
      have ml := rve_most w h yk yf ys K hyk k (by omega)
      have ll := drn_lost w h yk yf ys K hyk k (by omega)
      have el := rve_eye (w := w) (h := h) (K := K) (yk := yk) (yf := yf) (ys := ys) k
      have j7 : J 43 7 = zI (rve w h yk yf ys (K, z6) k).1 := by rw [h7 7 (by omega)]; exact s5
      have j8 : J 43 8 = zI (rve w h yk yf ys (K, z6) k).2.1 := by rw [h7 8 (by omega)]; exact s6
      have j9 : J 43 9 = zI ((rve w h yk yf ys (K, z6) k).2.2 : Nat) := by rw [h7 9 (by omega)]; exact s7
      have b5 : I1 43 5 = zI ((drn w h yk yf ys (K, z6) k).2.2 4 : Nat) := s4.2 4 (by omega)
      unfold FX8_review_s36
      simp (disch := omega) only [zlet, obind, zI_lit, zI_neg, zI_add, zI_sub, zI_mul, zI_div, zI_le, zI_lt, zI_eq, zI_cl, irem, ile_t, ile_f, ilt_t, ilt_f, ieq_t, ieq_f, and_true, true_and, and_false, false_and, and_self, not_true_eq_false, not_false_eq_true, ↓reduceIte, Int.toNat_natCast, tqb_z, tqb_t, tqb_f, e, D1.2.1, rg_43_0]
      cases qt : tld w h (yk k) (yf k) (ys k) (drn w h yk yf ys (K, z6) k).2 with
      | none =>
        have st := rve_stop s3 qt m (by omega)
        simp only [Option.isSome_none, if_true]
        refine Or.inr ⟨_, rfl, J, M, Or.inr rfl, s1.tr f1.f34, s2.tr f2.fl, ?_, ?_, ?_⟩
        · rw [st]; exact j7
        · rw [st]; exact j8
        · rw [st]; exact j9
      | some x2 =>
        rw [qt] at c2
        have tl := tld_lost (hyk k hk) qt
        simp only [Option.isSome_some, Bool.true_eq_false, if_false]
        have nx : (drn w h yk yf ys (K, z6) (k + 1)).1 = k + 1 ∧ (drn w h yk yf ys (K, z6) (k + 1)).2 = x2 := by rw [drn_s, if_pos s3, qt]; exact ⟨rfl, rfl⟩
        have rv : rve w h yk yf ys (K, z6) (k + 1) = rvs w h k (drn w h yk yf ys (K, z6) k).2 x2 (rve w h yk yf ys (K, z6) k) := by
          rw [rve_s, if_pos ⟨s3, by rw [qt]; rfl⟩, nx.2]
        have c5 : J 43 5 = zI (x2.2 4 : Nat) := c2.2 4 (by omega)
        obtain ⟨r2, er2, fr2⟩ := c_thick c2.1 (c_sol c2.1) (sb_rf _) c2.1.z
        have th2 := thk_eq fr2
        have et2 := c_through c2.1 fr2
        have th2' : thk w h x2.1 = r2 := th2
        -- the worst
        have fin : ∀ (J3 : tq_PI) (y : Int), FC 43 J J3 → SC J3 M w h x2 → J3 43 7 = zI y → J3 43 8 = J 43 8 → J3 43 9 = J 43 9 → J3 43 5 = J 43 5 → y = (rvs w h k (drn w h yk yf ys (K, z6) k).2 x2 (rve w h yk yf ys (K, z6) k)).1 → (∃ s2 : tq_PI × tq_PL, FX8_review_j85L36 J3 M 43 (9 + 10 * i) (zI (k : Int)) (zI ((drn w h yk yf ys (K, z6) k).2.2 4 : Nat)) = some (.inl (zI ((k + 1 : Nat) : Int), s2.1, s2.2)) ∧ F34 I s2.1 ∧ FL 44 L s2.2 ∧ (drn w h yk yf ys (K, z6) (k + 1)).1 = k + 1 ∧ SC s2.1 s2.2 w h (drn w h yk yf ys (K, z6) (k + 1)).2 ∧ s2.1 43 7 = zI (rve w h yk yf ys (K, z6) (k + 1)).1 ∧ s2.1 43 8 = zI (rve w h yk yf ys (K, z6) (k + 1)).2.1 ∧ s2.1 43 9 = zI ((rve w h yk yf ys (K, z6) (k + 1)).2.2 : Nat)) := fun J3 y f3 c3 a7 a8 a9 a5 hy => by
          unfold FX8_review_j85L36 FX8_review_j115L36
          simp (disch := omega) only [zlet, obind, zI_lit, zI_neg, zI_add, zI_sub, zI_mul, zI_div, zI_le, zI_lt, zI_eq, zI_cl, irem, ile_t, ile_f, ilt_t, ilt_f, ieq_t, ieq_f, and_true, true_and, and_false, false_and, and_self, not_true_eq_false, not_false_eq_true, ↓reduceIte, Int.toNat_natCast, tqb_z, tqb_t, tqb_f, a5, c5, a9, j9]
          rw [rv, nx.2]
          by_cases qd : (rve w h yk yf ys (K, z6) k).2.2 < x2.2 4 - (drn w h yk yf ys (K, z6) k).2.2 4
          · rw [if_neg (by omega)]
            refine ⟨(tq_up2 (tq_up2 J3 43 9 (zI ((x2.2 4 : Nat) - ((drn w h yk yf ys (K, z6) k).2.2 4 : Nat)))) 43 8 (zI (k : Int)), M), rfl, (s1.tr f1.f34).tr (f3.tr ((FC.up (b := 43)).tr FC.up)).f34, s2.tr f2.fl, nx.1, ⟨c3.1.fi ((FC.up (b := 43)).tr FC.up) (by omega), fun j hj => ?_⟩, ?_, ?_, ?_⟩
            · dsimp only
              rw [up_n _ _ (by omega), up_n _ _ (by omega)]
              exact c3.2 j hj
            · dsimp only
              rw [up_n _ _ (by omega), up_n _ _ (by omega), a7, hy]
            · dsimp only
              rw [up_s]
              unfold rvs
              dsimp only
              rw [if_pos qd]
            · dsimp only
              rw [up_n _ _ (by omega), up_s]
              unfold rvs
              dsimp only
              rw [if_pos qd]
              congr 1
              omega
          · rw [if_pos (by omega)]
            refine ⟨(J3, M), rfl, (s1.tr f1.f34).tr f3.f34, s2.tr f2.fl, nx.1, c3, ?_, ?_, ?_⟩
            · dsimp only; rw [a7, hy]
            · dsimp only
              rw [a8, j8]
              unfold rvs
              dsimp only
              rw [if_neg qd]
            · dsimp only
              rw [a9, j9]
              unfold rvs
              dsimp only
              rw [if_neg qd]
        rw [j7, b5]
        simp (disch := omega) only [zI_eq]
        by_cases qe : (rve w h yk yf ys (K, z6) k).1 = -1
        · rw [if_pos qe]
          have et2' : FX3_isThrough J M 44 = some (decide (r2 = 0)) := et2
          rw [et2', obind]
          by_cases q0 : r2 = 0
          · simp only [q0, decide_true, tqb_z, Bool.true_eq_false, if_false]
            refine Or.inl (fin _ ((k : Int) + 1) FC.up ⟨c2.1.fi FC.up (by omega), fun j hj => by rw [up_n _ _ (by omega)]; exact c2.2 j hj⟩ (by rw [up_s]) (up_n _ _ (by omega)) (up_n _ _ (by omega)) (up_n _ _ (by omega)) ?_)
            unfold rvs
            dsimp only
            rw [if_pos ⟨qe, by rw [th2', q0]⟩]
          · simp only [q0, decide_false, tqb_z, if_true]
            refine Or.inl (fin J _ FC.rf c2 j7 rfl rfl rfl ?_)
            unfold rvs
            dsimp only
            rw [if_neg (by rw [th2']; omega)]
        · rw [if_neg qe]
          refine Or.inl (fin J _ FC.rf c2 j7 rfl rfl rfl ?_)
          unfold rvs
          dsimp only
          rw [if_neg (by omega)]) (fun s hs => by
      obtain ⟨s1, s2, s3, s4, s5, s6, s7⟩ := hs
      have D1 := D.f34 hi s1
      unfold FX8_review_s36
      simp (disch := omega) only [zlet, obind, zI_lit, zI_neg, zI_add, zI_sub, zI_mul, zI_div, zI_le, zI_lt, zI_eq, zI_cl, irem, ile_t, ile_f, ilt_t, ilt_f, ieq_t, ieq_f, and_true, true_and, and_false, false_and, and_self, not_true_eq_false, not_false_eq_true, ↓reduceIte, Int.toNat_natCast, tqb_z, tqb_t, tqb_f, D1.2.1]
      exact ⟨_, rfl, s.1, s.2, Or.inl rfl, s1, s2, s5, s6, s7⟩) 0 (tq_up2 (tq_up2 (tq_up2 O.1 43 7 (zI b0)) 43 8 (zI (-1))) 43 9 (zI 0), O.2) (by omega) (by omega) ⟨F1, G0, rfl, C1, by
        dsimp only
        rw [up_n _ _ (by omega), up_n _ _ (by omega), up_s, hb0], by
        dsimp only
        rw [up_n _ _ (by omega), up_s]; rfl, by
        dsimp only
        rw [up_s]; rfl⟩
    obtain ⟨J, M, hb, f1, f2, h1, h2, h3⟩ := ho
    refine ⟨J, M, ?_, f1.fp, f2.fp (by unfold psl; omega), h1, h2, h3⟩
    unfold FX8_review_j21
    simp only [zI_lit, zI_neg]
    refine (congrArg (fun o => Option.bind o _) e1).trans ((obind _ _).trans ?_)
    rcases hb with rfl | rfl
    · rfl
    · rfl
  unfold FX8_review
  rw [zlet, hO, rg_43_0, et, obind]
  have e0 : (rve w h yk yf ys (K, z6) 0).1 = if r = 0 then 0 else -1 := by
    show (if thk w h (K, z6).1 = 0 then (0 : Int) else -1) = _
    rw [hth]
  by_cases q0 : r = 0
  · simp only [q0, decide_true, tqb_0, Bool.true_eq_false, if_false]
    exact loop 0 (by rw [e0, if_pos q0])
  · simp only [q0, decide_false, tqb_0, if_true]
    exact loop (-1) (by rw [e0, if_neg q0])
end AF
