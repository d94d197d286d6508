/-! YEARS: the queries stop, state. -/
def F34 (I J : tq_PI) : Prop := ∀ a, a ≠ 43 → a ≠ 44 → J a = I a
theorem F34.fp {I J : tq_PI} (h : F34 I J) : FP I J := fun a p => h a (by unfold psl at p; omega) (by unfold psl at p; omega)
theorem FC.f34 {I J : tq_PI} (h : FC 43 I J) : F34 I J := fun a q _ => h a q
theorem F34.tr {I J M : tq_PI} (h : F34 I J) (k : F34 J M) : F34 I M := fun a q r => (k a q r).trans (h a q r)
theorem FK.fl {a : Nat} {L M : tq_PL} (h : FK a L M) : FL a L M := fun b q => funext fun j => h b j (Or.inl q)
theorem c_takeL {I : tq_PI} {L : tq_PL} {a b : Nat} (q : a ≠ b) : (∀ j, 2 ≤ j → j ≤ 9 → (FX3_take I L b a).2 b j = L a j) ∧ FL b L (FX3_take I L b a).2 := by
  refine ⟨fun j h1 h2 => ?_, fun c hc => ?_⟩
  · unfold FX3_take
    rcases (by omega : j = 2 ∨ j = 3 ∨ j = 4 ∨ j = 5 ∨ j = 6 ∨ j = 7 ∨ j = 8 ∨ j = 9) with rfl | rfl | rfl | rfl | rfl | rfl | rfl | rfl <;> simp (disch := omega) only [up_s, up_n]
  · unfold FX3_take
    simp only [tq_up2_ne hc]
theorem c_takeI {I : tq_PI} {L : tq_PL} {a b : Nat} (q : a ≠ b) : (FX3_take I L b a).1 b 0 = I a 0 ∧ (FX3_take I L b a).1 b 1 = I a 1 ∧ FC b I (FX3_take I L b a).1 := by
  refine ⟨?_, ?_, fun c hc => ?_⟩
  · unfold FX3_take; simp (disch := omega) only [up_s, up_n]
  · unfold FX3_take; simp (disch := omega) only [up_s, up_n]
  · unfold FX3_take; simp only [tq_up2_ne hc]
theorem HC.take {I J : tq_PI} {L M : tq_PL} {a b w h : Nat} {K : Nat → Nat} (H : HC I L a w h K) (h0 : J b 0 = I a 0) (h1 : J b 1 = I a 1) (hj : ∀ j, 2 ≤ j → j ≤ 9 → M b j = L a j) : HC J M b w h K := by
  unfold HC
  rw [h0, h1, hj 2 (by omega) (by omega), hj 3 (by omega) (by omega), hj 4 (by omega) (by omega), hj 5 (by omega) (by omega), hj 6 (by omega) (by omega), hj 7 (by omega) (by omega), hj 8 (by omega) (by omega), hj 9 (by omega) (by omega)]
  exact H
def z6 : Nat → Nat := fun _ => 0
theorem c_open8 {I : tq_PI} {L : tq_PL} {a w h : Nat} {K : Nat → Nat} (H : HC I L a w h K) (q : a ≠ 44) (q2 : a ≠ 43) : F34 I (FX8_open I L 43 a).1 ∧ FL 44 L (FX8_open I L 43 a).2 ∧ SC (FX8_open I L 43 a).1 (FX8_open I L 43 a).2 w h (K, z6) := by
  obtain ⟨l1, l2⟩ := c_takeL (I := I) (L := L) q
  obtain ⟨i0, i1, i2⟩ := c_takeI (I := I) (L := L) q
  unfold FX8_open
  simp only [zlet, rg_43_0, zI_lit]
  refine ⟨fun c h1 h2 => ?_, l2, ?_, fun j hj => ?_⟩
  · rw [tq_up2_ne h1, tq_up2_ne h1, tq_up2_ne h1, tq_up2_ne h1, tq_up2_ne h1, tq_up2_ne h1]
    exact i2 c h2
  · refine H.take ?_ ?_ l1
    · rw [tq_up2_ne (by omega), tq_up2_ne (by omega), tq_up2_ne (by omega), tq_up2_ne (by omega), tq_up2_ne (by omega), tq_up2_ne (by omega)]; exact i0
    · rw [tq_up2_ne (by omega), tq_up2_ne (by omega), tq_up2_ne (by omega), tq_up2_ne (by omega), tq_up2_ne (by omega), tq_up2_ne (by omega)]; exact i1
  · rcases (by omega : j = 0 ∨ j = 1 ∨ j = 2 ∨ j = 3 ∨ j = 4 ∨ j = 5) with rfl | rfl | rfl | rfl | rfl | rfl <;> simp (disch := omega) only [up_s, up_n] <;> rfl
section YQ
variable {w h i o m : Nat} {K : Nat → Nat} {yk yf ys : Nat → Nat} {A : Nat → Int32}
theorem YD.f34 {I J : tq_PI} (D : YD I (9 + 10 * i) A o m yk yf ys) (hi : i < 2) (F : F34 I J) : YD J (9 + 10 * i) A o m yk yf ys := by
  unfold YD
  rw [F (9 + 10 * i) (by omega) (by omega), F (9 + 10 * i + 1) (by omega) (by omega), F (9 + 10 * i + 2) (by omega) (by omega), F (9 + 10 * i + 3) (by omega) (by omega)]
  exact D
theorem c_replay {I : tq_PI} {L : tq_PL} {a n : Nat} (H : HC I L a w h K) (q : a ≠ 44) (q2 : a ≠ 43) (hi : i < 2) (D : YD I (9 + 10 * i) A o m yk yf ys) (hn : n ≤ m) : ∃ J M, FX8_replay I L 43 a (9 + 10 * i) (zI (n : Int)) = some (zI ((drn w h yk yf ys (K, z6) n).1 : Nat), J, M) ∧ FP I J ∧ FP L M ∧ SC J M w h (drn w h yk yf ys (K, z6) n).2 := by
  obtain ⟨F0, G0, C0⟩ := c_open8 H q q2
  have hm := D.1
  generalize hO : FX8_open I L 43 a = O at *
  obtain ⟨o1, e1, ho⟩ := it_for (f := fun p : Int32 × tq_PI × tq_PL => FX8_replay_s8 p.2.1 p.2.2 43 (9 + 10 * i) (zI (n : Int)) p.1) (fun k (s : tq_PI × tq_PL) => (zI (k : Int), s.1, s.2)) n (fun k s => F34 I s.1 ∧ FL 44 L s.2 ∧ (drn w h yk yf ys (K, z6) k).1 = k ∧ SC s.1 s.2 w h (drn w h yk yf ys (K, z6) k).2) (Post := fun b => (∃ J M, b = .inl (J, M) ∧ F34 I J ∧ FL 44 L M ∧ (drn w h yk yf ys (K, z6) n).1 = n ∧ SC J M w h (drn w h yk yf ys (K, z6) n).2) ∨ ∃ J M, b = .inr (zI ((drn w h yk yf ys (K, z6) n).1 : Nat), J, M) ∧ F34 I J ∧ FL 44 L M ∧ SC J M w h (drn w h yk yf ys (K, z6) n).2) (fun k s hk hs => by
    obtain ⟨I1, L1⟩ := s
    obtain ⟨s1, s2, s3, s4⟩ := hs
    dsimp only at s1 s2 s4 ⊢
    obtain ⟨J, M, e, f1, f2, c2, -⟩ := c_act s4 hi (D.f34 hi s1) (k := k) (by omega)
    unfold FX8_replay_s8
    simp (disch := omega) only [zlet, obind, zI_lit, zI_neg, zI_add, zI_sub, zI_mul, zI_div, zI_le, zI_lt, zI_eq, zI_cl, irem, ile_t, ile_f, ilt_t, ilt_f, ieq_t, ieq_f, and_true, true_and, and_false, false_and, and_self, not_true_eq_false, not_false_eq_true, ↓reduceIte, Int.toNat_natCast, tqb_z, tqb_t, tqb_f, e]
    cases qt : tld w h (yk k) (yf k) (ys k) (drn w h yk yf ys (K, z6) k).2 with
    | none =>
      rw [qt] at c2
      have st := drn_stop s3 qt n (by omega)
      simp only [Option.isSome_none, if_true]
      refine Or.inr ⟨_, rfl, Or.inr ⟨J, M, by rw [st], s1.tr f1.f34, s2.tr f2.fl, ?_⟩⟩
      rw [st]
      exact c2
    | some x2 =>
      rw [qt] at c2
      simp only [Option.isSome_some, Bool.true_eq_false, if_false]
      refine Or.inl ⟨(J, M), rfl, s1.tr f1.f34, s2.tr f2.fl, ?_, ?_⟩
      · rw [drn_s, if_pos s3, qt]; rfl
      · rw [drn_s, if_pos s3, qt]; exact c2) (fun s hs => by
    obtain ⟨s1, s2, s3, s4⟩ := hs
    unfold FX8_replay_s8
    simp (disch := omega) only [zlet, obind, zI_lit, zI_neg, zI_add, zI_sub, zI_mul, zI_div, zI_le, zI_lt, zI_eq, zI_cl, irem, ile_t, ile_f, ilt_t, ilt_f, ieq_t, ieq_f, and_true, true_and, and_false, false_and, and_self, not_true_eq_false, not_false_eq_true, ↓reduceIte, Int.toNat_natCast, tqb_z, tqb_t, tqb_f]
    exact ⟨_, rfl, Or.inl ⟨s.1, s.2, rfl, s1, s2, s3, s4⟩⟩) 0 O (by omega) (by omega) ⟨F0, G0, rfl, C0⟩
  have e2 : FX8_replay I L 43 a (9 + 10 * i) (zI (n : Int)) = o1.elim (fun t6 => some (zI (n : Int), t6.1, t6.2)) (fun t6 => some t6) := by
    unfold FX8_replay
    rw [zlet, hO]
    exact (congrArg (fun o => Option.bind o _) e1).trans (obind _ _)
  rw [e2]
  rcases ho with ⟨J, M, rfl, f1, f2, h3, h4⟩ | ⟨J, M, rfl, f1, f2, h4⟩
  · exact ⟨J, M, by rw [h3]; rfl, f1.fp, f2.fp (by unfold psl; omega), h4⟩
  · exact ⟨J, M, rfl, f1.fp, f2.fp (by unfold psl; omega), h4⟩
theorem r_runs {J J1 J2 : tq_PI} {M : tq_PL} (hJ : FP J J1) (e : FX12_asTold J1 M 136 = some J2) (R2 : RW J2 w h) (G2 : GR J2 w h 0 K) (P2 : FP J J2) (h19 : J2 136 19 = zI (o : Int)) (ho : o + 121 ≤ 4016) {I : tq_PI} {y : Nat} (D : YD I y (J 137) o m yk yf ys) {z : Int} (hz : 0 ≤ z ∧ z < 2147483648) : ∃ J3, FX12_runs J1 M 136 (zI z) = some J3 ∧ FP J J3 ∧ J3 136 24 = zI ((drn w h yk yf ys (K, z6) (min z.toNat m)).1 : Nat) ∧ SR J3 w h (drn w h yk yf ys (K, z6) (min z.toNat m)).2 := by
  obtain ⟨J3, e3, R3, G3, P3, z3, l3, k3, n3, f3⟩ := r_begins e R2 G2
  have hm := D.1
  have S3 : SR J3 w h (K, z6) := ⟨R3, G3, fun s hs => z3 s hs, l3, k3⟩
  obtain ⟨J4, e4, P4, n4, S4⟩ := it_m (f := fun p : tq_PI => FX12_runs_s4 p M 136 (zI z)) (Inv := fun t p => ∃ k : Nat, FP J p ∧ p 136 19 = zI (o : Int) ∧ p 136 24 = zI (k : Int) ∧ k ≤ min z.toNat m ∧ (drn w h yk yf ys (K, z6) k).1 = k ∧ SR p w h (drn w h yk yf ys (K, z6) k).2 ∧ t = m - k) (Post := fun p => FP J p ∧ p 136 24 = zI ((drn w h yk yf ys (K, z6) (min z.toNat m)).1 : Nat) ∧ SR p w h (drn w h yk yf ys (K, z6) (min z.toNat m)).2) (fun t p hp => by
    obtain ⟨k, P, h1, h2, h3, h4, h5, h6⟩ := hp
    have a137 : p 137 = J 137 := P.a
    have hmo : p 137 o = zI (m : Int) := by rw [a137]; exact D.2.2.1
    unfold FX12_runs_s4
    simp (disch := omega) only [zlet, obind, zI_lit, zI_neg, zI_add, zI_sub, zI_mul, zI_div, zI_le, zI_lt, zI_eq, zI_cl, irem, ile_t, ile_f, ilt_t, ilt_f, ieq_t, ieq_f, and_true, true_and, and_false, false_and, and_self, not_true_eq_false, not_false_eq_true, ↓reduceIte, Int.toNat_natCast, tqb_z, tqb_t, tqb_f, h1, h2, g0, hmo]
    by_cases q1 : z ≤ k
    · rw [if_pos q1]
      have ek : min z.toNat m = k := by omega
      exact Or.inr ⟨_, rfl, P, by rw [ek, h4]; exact h2, by rw [ek]; exact h5⟩
    · rw [if_neg q1]
      by_cases q2 : m ≤ k
      · rw [if_pos (by omega)]
        have ek : min z.toNat m = k := by omega
        exact Or.inr ⟨_, rfl, P, by rw [ek, h4]; exact h2, by rw [ek]; exact h5⟩
      · rw [if_neg (by omega)]
        obtain ⟨J5, e5, F5, S5⟩ := r_told (yk := yk) (yf := yf) (ys := ys) (I := I) (y := y) (m := m) h5 M (by rw [a137]; exact D) h1 ho (k := k) (by omega)
        rw [e5, obind]
        cases qt : tld w h (yk k) (yf k) (ys k) (drn w h yk yf ys (K, z6) k).2 with
        | none =>
          rw [qt] at S5
          have st := drn_stop h4 qt (min z.toNat m) (by omega)
          refine Or.inr ⟨J5, rfl, P.tr F5.fp, ?_, ?_⟩
          · rw [st, F5.2 24 (by omega) (by omega)]; exact h2
          · rw [st]; exact S5
        | some x2 =>
          rw [qt] at S5
          have h24 : J5 136 24 = zI (k : Int) := by rw [F5.2 24 (by omega) (by omega)]; exact h2
          refine Or.inl ⟨tq_up2 J5 136 24 (zI ((k : Int) + 1)), m - (k + 1), ?_, by omega, k + 1, ?_, ?_, ?_, by omega, ?_, ?_, rfl⟩
          · rw [if_neg (by simp)]
            simp only [h24, zI_add]
          · exact (P.tr F5.fp).tr ((FC.up (b := 136)).fp (by unfold psl; omega))
          · rw [up_n _ _ (by omega), F5.2 19 (by omega) (by omega)]; exact h1
          · rw [up_s]; rfl
          · rw [drn_s, if_pos h4, qt]; rfl
          · rw [drn_s, if_pos h4, qt]
            refine ⟨⟨?_, ?_, S5.1.2.2⟩, ?_, fun s hs => ?_, ?_, ?_⟩
            · rw [up_n _ _ (by omega)]; exact S5.1.1
            · rw [up_n _ _ (by omega)]; exact S5.1.2.1
            · unfold GR; rw [tq_up2_ne (by omega)]; exact S5.2.1
            · rw [tq_up2_ne (by omega), tq_up2_ne (by omega)]; exact S5.2.2.1 s hs
            · rw [up_n _ _ (by omega)]; exact S5.2.2.2.1
            · rw [up_n _ _ (by omega)]; exact S5.2.2.2.2) tq_N (m - 0) J3 (by rw [tq_N_eq]; omega) ⟨0, P2.tr P3, by rw [f3 19 (by omega)]; exact h19, n3, by omega, rfl, S3, rfl⟩
  refine ⟨J4, ?_, P4, n4, S4⟩
  unfold FX12_runs
  rw [e3, obind]
  exact (congrArg (fun o => Option.bind o _) e4).trans (obind _ _)
theorem y_answer {I : tq_PI} {L : tq_PL} {x : Yst} (C : SC I L w h x) {z : Int} (hz : -2147483648 ≤ z ∧ z < 2147483648) : ∃ v, FX8_answer I L 43 (zI z) = some v ∧ (z < 0 → v = -2) ∧ ∀ J M, SR J w h x → 0 ≤ z → ∃ J2, FX12_nowOf J M 136 (zI z) = some (v, J2) ∧ FP J J2 := by
  have h48 := wh_le C.1.k
  rcases (by omega : z = 0 ∨ z = 1 ∨ z = 2 ∨ z = 3 ∨ z = 4 ∨ z = 5 ∨ z = 6 ∨ z = 7 ∨ (100 ≤ z ∧ z - 100 < ((w * h : Nat) : Int)) ∨ (z < 0 ∨ 7 < z) ∧ ¬ (100 ≤ z ∧ z - 100 < ((w * h : Nat) : Int))) with rfl | rfl | rfl | rfl | rfl | rfl | rfl | rfl | q | ⟨q1, q2⟩
  · have c := C.2 0 (by omega)
    refine ⟨zI (x.2 0 : Nat), by unfold FX8_answer; simp (disch := omega) only [zlet, obind, zI_lit, zI_neg, zI_add, zI_sub, zI_mul, zI_div, zI_le, zI_lt, zI_eq, zI_cl, irem, ile_t, ile_f, ilt_t, ilt_f, ieq_t, ieq_f, and_true, true_and, and_false, false_and, and_self, not_true_eq_false, not_false_eq_true, ↓reduceIte, Int.toNat_natCast, tqb_z, tqb_t, tqb_f]; exact congrArg some c, by omega, fun J M S _ => ⟨J, ?_, FP.rf⟩⟩
    unfold FX12_nowOf
    simp (disch := omega) only [zlet, obind, zI_lit, zI_neg, zI_add, zI_sub, zI_mul, zI_div, zI_le, zI_lt, zI_eq, zI_cl, irem, ile_t, ile_f, ilt_t, ilt_f, ieq_t, ieq_f, and_true, true_and, and_false, false_and, and_self, not_true_eq_false, not_false_eq_true, ↓reduceIte, Int.toNat_natCast, tqb_z, tqb_t, tqb_f, g20, show (0 : Int).toNat = 0 from rfl]
    rw [(S.2.2.1 0 (by omega)).1]
  · have c := C.2 1 (by omega)
    refine ⟨zI (x.2 1 : Nat), by unfold FX8_answer; simp (disch := omega) only [zlet, obind, zI_lit, zI_neg, zI_add, zI_sub, zI_mul, zI_div, zI_le, zI_lt, zI_eq, zI_cl, irem, ile_t, ile_f, ilt_t, ilt_f, ieq_t, ieq_f, and_true, true_and, and_false, false_and, and_self, not_true_eq_false, not_false_eq_true, ↓reduceIte, Int.toNat_natCast, tqb_z, tqb_t, tqb_f]; exact congrArg some c, by omega, fun J M S _ => ⟨J, ?_, FP.rf⟩⟩
    unfold FX12_nowOf
    simp (disch := omega) only [zlet, obind, zI_lit, zI_neg, zI_add, zI_sub, zI_mul, zI_div, zI_le, zI_lt, zI_eq, zI_cl, irem, ile_t, ile_f, ilt_t, ilt_f, ieq_t, ieq_f, and_true, true_and, and_false, false_and, and_self, not_true_eq_false, not_false_eq_true, ↓reduceIte, Int.toNat_natCast, tqb_z, tqb_t, tqb_f, g20, show (1 : Int).toNat = 1 from rfl]
    rw [(S.2.2.1 1 (by omega)).1]
  · have c := C.2 2 (by omega)
    refine ⟨zI (x.2 2 : Nat), by unfold FX8_answer; simp (disch := omega) only [zlet, obind, zI_lit, zI_neg, zI_add, zI_sub, zI_mul, zI_div, zI_le, zI_lt, zI_eq, zI_cl, irem, ile_t, ile_f, ilt_t, ilt_f, ieq_t, ieq_f, and_true, true_and, and_false, false_and, and_self, not_true_eq_false, not_false_eq_true, ↓reduceIte, Int.toNat_natCast, tqb_z, tqb_t, tqb_f]; exact congrArg some c, by omega, fun J M S _ => ⟨J, ?_, FP.rf⟩⟩
    unfold FX12_nowOf
    simp (disch := omega) only [zlet, obind, zI_lit, zI_neg, zI_add, zI_sub, zI_mul, zI_div, zI_le, zI_lt, zI_eq, zI_cl, irem, ile_t, ile_f, ilt_t, ilt_f, ieq_t, ieq_f, and_true, true_and, and_false, false_and, and_self, not_true_eq_false, not_false_eq_true, ↓reduceIte, Int.toNat_natCast, tqb_z, tqb_t, tqb_f, g21, show ((2 : Int) - 2).toNat = 0 from rfl]
    rw [(S.2.2.1 0 (by omega)).2]
  · have c := C.2 3 (by omega)
    refine ⟨zI (x.2 3 : Nat), by unfold FX8_answer; simp (disch := omega) only [zlet, obind, zI_lit, zI_neg, zI_add, zI_sub, zI_mul, zI_div, zI_le, zI_lt, zI_eq, zI_cl, irem, ile_t, ile_f, ilt_t, ilt_f, ieq_t, ieq_f, and_true, true_and, and_false, false_and, and_self, not_true_eq_false, not_false_eq_true, ↓reduceIte, Int.toNat_natCast, tqb_z, tqb_t, tqb_f]; exact congrArg some c, by omega, fun J M S _ => ⟨J, ?_, FP.rf⟩⟩
    unfold FX12_nowOf
    simp (disch := omega) only [zlet, obind, zI_lit, zI_neg, zI_add, zI_sub, zI_mul, zI_div, zI_le, zI_lt, zI_eq, zI_cl, irem, ile_t, ile_f, ilt_t, ilt_f, ieq_t, ieq_f, and_true, true_and, and_false, false_and, and_self, not_true_eq_false, not_false_eq_true, ↓reduceIte, Int.toNat_natCast, tqb_z, tqb_t, tqb_f, g21, show ((3 : Int) - 2).toNat = 1 from rfl]
    rw [(S.2.2.1 1 (by omega)).2]
  · have c := C.2 4 (by omega)
    refine ⟨zI (x.2 4 : Nat), by unfold FX8_answer; simp (disch := omega) only [zlet, obind, zI_lit, zI_neg, zI_add, zI_sub, zI_mul, zI_div, zI_le, zI_lt, zI_eq, zI_cl, irem, ile_t, ile_f, ilt_t, ilt_f, ieq_t, ieq_f, and_true, true_and, and_false, false_and, and_self, not_true_eq_false, not_false_eq_true, ↓reduceIte, Int.toNat_natCast, tqb_z, tqb_t, tqb_f]; exact congrArg some c, by omega, fun J M S _ => ⟨J, ?_, FP.rf⟩⟩
    unfold FX12_nowOf
    simp (disch := omega) only [zlet, obind, zI_lit, zI_neg, zI_add, zI_sub, zI_mul, zI_div, zI_le, zI_lt, zI_eq, zI_cl, irem, ile_t, ile_f, ilt_t, ilt_f, ieq_t, ieq_f, and_true, true_and, and_false, false_and, and_self, not_true_eq_false, not_false_eq_true, ↓reduceIte, Int.toNat_natCast, tqb_z, tqb_t, tqb_f, S.2.2.2.1]
  · obtain ⟨r, er, fr⟩ := c_thick C.1 (c_sol C.1) (sb_rf _) C.1.z
    refine ⟨zI r, by unfold FX8_answer; simp (disch := omega) only [zlet, obind, zI_lit, zI_neg, zI_add, zI_sub, zI_mul, zI_div, zI_le, zI_lt, zI_eq, zI_cl, irem, ile_t, ile_f, ilt_t, ilt_f, ieq_t, ieq_f, and_true, true_and, and_false, false_and, and_self, not_true_eq_false, not_false_eq_true, ↓reduceIte, Int.toNat_natCast, tqb_z, tqb_t, tqb_f, rg_43_0, er], by omega, fun J M S _ => ?_⟩
    obtain ⟨J1, r2, e1, F1, f1⟩ := r_thick S.1 S.2.1 (by omega) M
    have e1' : FX12_thickOf J M 136 (zI 0) = some (zI r2, J1) := e1
    refine ⟨J1, ?_, F1.fp (by unfold psl; omega)⟩
    unfold FX12_nowOf
    simp (disch := omega) only [zlet, obind, zI_lit, zI_neg, zI_add, zI_sub, zI_mul, zI_div, zI_le, zI_lt, zI_eq, zI_cl, irem, ile_t, ile_f, ilt_t, ilt_f, ieq_t, ieq_f, and_true, true_and, and_false, false_and, and_self, not_true_eq_false, not_false_eq_true, ↓reduceIte, Int.toNat_natCast, tqb_z, tqb_t, tqb_f, e1']
    rw [Few_one fr f1]
  · have c := C.2 5 (by omega)
    refine ⟨zI (x.2 5 : Nat), by unfold FX8_answer; simp (disch := omega) only [zlet, obind, zI_lit, zI_neg, zI_add, zI_sub, zI_mul, zI_div, zI_le, zI_lt, zI_eq, zI_cl, irem, ile_t, ile_f, ilt_t, ilt_f, ieq_t, ieq_f, and_true, true_and, and_false, false_and, and_self, not_true_eq_false, not_false_eq_true, ↓reduceIte, Int.toNat_natCast, tqb_z, tqb_t, tqb_f]; exact congrArg some c, by omega, fun J M S _ => ⟨J, ?_, FP.rf⟩⟩
    unfold FX12_nowOf
    simp (disch := omega) only [zlet, obind, zI_lit, zI_neg, zI_add, zI_sub, zI_mul, zI_div, zI_le, zI_lt, zI_eq, zI_cl, irem, ile_t, ile_f, ilt_t, ilt_f, ieq_t, ieq_f, and_true, true_and, and_false, false_and, and_self, not_true_eq_false, not_false_eq_true, ↓reduceIte, Int.toNat_natCast, tqb_z, tqb_t, tqb_f, S.2.2.2.2]
  · refine ⟨zI (fb_ct (sto x.1) 64 : Nat), by unfold FX8_answer; simp (disch := omega) only [zlet, obind, zI_lit, zI_neg, zI_add, zI_sub, zI_mul, zI_div, zI_le, zI_lt, zI_eq, zI_cl, irem, ile_t, ile_f, ilt_t, ilt_f, ieq_t, ieq_f, and_true, true_and, and_false, false_and, and_self, not_true_eq_false, not_false_eq_true, ↓reduceIte, Int.toNat_natCast, tqb_z, tqb_t, tqb_f, rg_43_0, bc_eq, c_sto C.1], by omega, fun J M S _ => ⟨J, ?_, FP.rf⟩⟩
    have s := r_stones S.1 S.2.1 (by omega) M false
    have s' : FX12_stones J M 136 (zI 0) (zI 0) = some (zI (fb_ct (sto x.1) 64 : Nat)) := s
    unfold FX12_nowOf
    simp (disch := omega) only [zlet, obind, zI_lit, zI_neg, zI_add, zI_sub, zI_mul, zI_div, zI_le, zI_lt, zI_eq, zI_cl, irem, ile_t, ile_f, ilt_t, ilt_f, ieq_t, ieq_f, and_true, true_and, and_false, false_and, and_self, not_true_eq_false, not_false_eq_true, ↓reduceIte, Int.toNat_natCast, tqb_z, tqb_t, tqb_f, s']
  · obtain ⟨c, hc⟩ : ∃ c : Nat, z - 100 = c := ⟨(z - 100).toNat, by omega⟩
    have kk := c_kindOf_t C.1 (c := c) (by omega)
    have kl := C.1.le (pl w c)
    refine ⟨zI (x.1 (pl w c) : Nat), ?_, by omega, fun J M S _ => ⟨J, ?_, FP.rf⟩⟩
    · unfold FX8_answer FX8_kindAnswer FX8_kindAnswer_j21
      simp (disch := omega) only [zlet, obind, zI_lit, zI_neg, zI_add, zI_sub, zI_mul, zI_div, zI_le, zI_lt, zI_eq, zI_cl, irem, ile_t, ile_f, ilt_t, ilt_f, ieq_t, ieq_f, and_true, true_and, and_false, false_and, and_self, not_true_eq_false, not_false_eq_true, ↓reduceIte, Int.toNat_natCast, tqb_z, tqb_t, tqb_f, rg_43_0, hc, kk]
    · have ic := r_isCell S.1 M (z := (c : Int)) (by omega)
      unfold FX12_nowOf
      simp (disch := omega) only [zlet, obind, zI_lit, zI_neg, zI_add, zI_sub, zI_mul, zI_div, zI_le, zI_lt, zI_eq, zI_cl, irem, ile_t, ile_f, ilt_t, ilt_f, ieq_t, ieq_f, and_true, true_and, and_false, false_and, and_self, not_true_eq_false, not_false_eq_true, ↓reduceIte, Int.toNat_natCast, tqb_z, tqb_t, tqb_f, r_isIn, decide_eq_false_iff_not, decide_eq_true_eq, oel_s, oel_n, Bool.false_eq_true, btf, eq_self, or_self, or_false, false_or, or_true, true_or, iand_f, iandl_f, ior_t, ior_f, hc, ic, r_kind0 C.1.k S.2.1]
  · refine ⟨-2, ?_, fun _ => rfl, fun J M S z0 => ⟨J, ?_, FP.rf⟩⟩
    · unfold FX8_answer FX8_kindAnswer FX8_kindAnswer_j21
      by_cases q3 : 100 ≤ z
      · have kk := c_kindOf_f C.1 (z := z - 100) (by omega) (by omega)
        simp (disch := omega) only [zlet, obind, zI_lit, zI_neg, zI_add, zI_sub, zI_mul, zI_div, zI_le, zI_lt, zI_eq, zI_cl, irem, ile_t, ile_f, ilt_t, ilt_f, ieq_t, ieq_f, and_true, true_and, and_false, false_and, and_self, not_true_eq_false, not_false_eq_true, ↓reduceIte, Int.toNat_natCast, tqb_z, tqb_t, tqb_f, rg_43_0, kk]
      · simp (disch := omega) only [zlet, obind, zI_lit, zI_neg, zI_add, zI_sub, zI_mul, zI_div, zI_le, zI_lt, zI_eq, zI_cl, irem, ile_t, ile_f, ilt_t, ilt_f, ieq_t, ieq_f, and_true, true_and, and_false, false_and, and_self, not_true_eq_false, not_false_eq_true, ↓reduceIte, Int.toNat_natCast, tqb_z, tqb_t, tqb_f]
    · unfold FX12_nowOf FX12_nowOf_j116
      by_cases q3 : 100 ≤ z
      · have ic := r_isCell S.1 M (z := z - 100) (by omega)
        simp (disch := omega) only [zlet, obind, zI_lit, zI_neg, zI_add, zI_sub, zI_mul, zI_div, zI_le, zI_lt, zI_eq, zI_cl, irem, ile_t, ile_f, ilt_t, ilt_f, ieq_t, ieq_f, and_true, true_and, and_false, false_and, and_self, not_true_eq_false, not_false_eq_true, ↓reduceIte, Int.toNat_natCast, tqb_z, tqb_t, tqb_f, r_isIn, decide_eq_false_iff_not, decide_eq_true_eq, oel_s, oel_n, Bool.false_eq_true, btf, eq_self, or_self, or_false, false_or, or_true, true_or, iand_f, iandl_f, ior_t, ior_f, ic]
      · simp (disch := omega) only [zlet, obind, zI_lit, zI_neg, zI_add, zI_sub, zI_mul, zI_div, zI_le, zI_lt, zI_eq, zI_cl, irem, ile_t, ile_f, ilt_t, ilt_f, ieq_t, ieq_f, and_true, true_and, and_false, false_and, and_self, not_true_eq_false, not_false_eq_true, ↓reduceIte, Int.toNat_natCast, tqb_z, tqb_t, tqb_f, r_isIn, decide_eq_false_iff_not, decide_eq_true_eq, oel_s, oel_n, Bool.false_eq_true, btf, eq_self, or_self, or_false, false_or, or_true, true_or, iand_f, iandl_f, ior_t, ior_f]
end YQ
