/-! RICH, by the reference: the walk; the query. -/
section RV
variable {w h : Nat} {M : Nat → Nat}
theorem r_rstep {J : tq_PI} {l s W c : Nat} {L : tq_PL} {ρ : Nat → Nat} {r : Rec} (R : RW J w h) (G : GR J w h l M) (hl : l ≤ 2) (E : SE w h M s (L 149 l)) (hc : c < w * h) (T : TR w J ρ l) (Q : RR w J r) (hW : W ≤ 100) (sf : saf w h M s (pl w c) = true) : ∃ J1 J2, FX12_triesCut J L 136 (zI (l : Int)) (zI (c : Int)) = some (true, J1) ∧ FX12_kindOf J1 L 136 (zI (l : Int)) (zI (c : Int)) = some (zI (M (pl w c) : Nat)) ∧ FX12_isRicher J1 L 136 (zI ((l + 1 : Nat) : Int)) (zI ((W + wor (M (pl w c)) : Nat) : Int)) = some J2 ∧ RR w J2 (cmr r (W + wor (M (pl w c)), l + 1, kup ρ l (pl w c))) ∧ FW l J J2 ∧ GR J2 w h (l + 1) (kup M (pl w c) 0) ∧ TR w J2 (kup ρ l (pl w c)) (l + 1) := by
  have k := R.2.2
  have h48 := wh_le k
  obtain ⟨J1, e1, F1, a1, a2, g1⟩ := r_tries R G hl E hc
  obtain ⟨G1, t1⟩ := g1 sf
  rw [sf] at e1
  have G2 := G.fw k F1 (Nat.le_refl _)
  have e2 := r_kind k G2 (by omega) L (z := (c : Int)) (by omega)
  have w4 := wor_le (M (pl w c))
  have T2 : TR w J1 (kup ρ l (pl w c)) (l + 1) := fun j hj => by
    unfold kup
    by_cases q : j = l
    · rw [if_pos q, q, t1, cl_pl k]
    · rw [if_neg q, F1 147 j (by omega) (by omega) (by omega) (by omega) (by omega)]
      exact T j (by omega)
  obtain ⟨J2, e3, Q3, F3⟩ := r_richer (w := w) (m := l + 1) (W := W + wor (M (pl w c))) L (Q.eq a1 a2) T2 (by omega) (by omega)
  refine ⟨J1, J2, e1, e2, e3, Q3, F1.tr (fun a j q1 q2 q3 q4 q5 => F3 a j q1 q4), ⟨fun d hd => ?_, G1.2⟩, fun j hj => ?_⟩
  · rw [F3 140 _ (by omega) (by omega)]; exact G1.1 d hd
  · rw [F3 147 _ (by omega) (by omega)]; exact T2 j hj
theorem r_rno {J : tq_PI} {l s c : Nat} {L : tq_PL} {r : Rec} (R : RW J w h) (G : GR J w h l M) (hl : l ≤ 2) (E : SE w h M s (L 149 l)) (hc : c < w * h) (Q : RR w J r) (sf : saf w h M s (pl w c) = false) : ∃ J1, FX12_triesCut J L 136 (zI (l : Int)) (zI (c : Int)) = some (false, J1) ∧ RR w J1 r ∧ FW l J J1 := by
  obtain ⟨J1, e1, F1, a1, a2, g1⟩ := r_tries R G hl E hc
  rw [sf] at e1
  exact ⟨J1, e1, Q.eq a1 a2, F1⟩
theorem TR.fw {J J2 : tq_PI} {l d : Nat} {ρ : Nat → Nat} (T : TR w J ρ d) (F : FW l J J2) (q : d ≤ l) : TR w J2 ρ d := fun k hk => by
  rw [F 147 k (by omega) (by omega) (by omega) (by omega) (by omega)]; exact T k hk
theorem SE.fm {l s : Nat} {L L2 : tq_PL} (E : SE w h M s (L 149 l)) (F : FM (l + 1) L L2) : SE w h M s (L2 149 l) := by
  rw [F 149 l (by omega)]; exact E
theorem r_third {J : tq_PI} {s W : Nat} {ρ : Nat → Nat} {r : Rec} (R : RW J w h) (G : GR J w h 2 M) (L : tq_PL) (hs : s < 2) (T : TR w J ρ 2) (Q : RR w J r) (hW : W ≤ 100) : ∃ J2 L2, FX12_richThird J L 136 (zI (s : Int)) (zI (W : Int)) = some (J2, L2) ∧ RR w J2 (dfs w h s 1 2 M W ρ r) ∧ FW 2 J J2 ∧ FM 2 L L2 := by
  have k := R.2.2
  have h48 := wh_le k
  obtain ⟨J0, L2, e0, F0, N0, E⟩ := r_sees R G (by omega) L hs
  have Q0 : RR w J0 r := Q.eq (F0 136 (by omega)) (F0 148 (by omega))
  obtain ⟨J2, e, F2, Q2⟩ := it_for (f := fun p : Int32 × tq_PI => FX12_richThird_s8 p.2 L2 136 (zI (W : Int)) p.1) (fun i (J1 : tq_PI) => (zI (i : Int), J1)) (w * h) (fun i J1 => FW 2 J J1 ∧ RR w J1 (fop (fun t i => dbo w h s 0 2 M W ρ t (pl w i)) (fun i => saf w h M s (pl w i)) i r)) (Post := fun J1 => FW 2 J J1 ∧ RR w J1 (fop (fun t i => dbo w h s 0 2 M W ρ t (pl w i)) (fun i => saf w h M s (pl w i)) (w * h) r)) (fun i J1 hi hJ => by
    obtain ⟨F1, Q1⟩ := hJ
    have R1 := R.fw F1
    have G1 := G.fw k F1 (by omega)
    have T1 := T.fw F1 (by omega)
    unfold FX12_richThird_s8 FX12_richThird_j41L8
    rw [fop_s]
    cases sf : saf w h M s (pl w i)
    · obtain ⟨J3, e3, Q3, F3⟩ := r_rno R1 G1 (by omega) E hi Q1 sf
      have e3' : FX12_triesCut J1 L2 136 (zI 2) (zI (i : Int)) = some (false, J3) := e3
      simp (disch := omega) only [zlet, obind, zI_lit, zI_neg, zI_add, zI_sub, zI_mul, zI_div, zI_le, zI_lt, zI_eq, zI_cl, irem, ile_t, ile_f, ilt_t, ilt_f, ieq_t, ieq_f, and_true, true_and, and_false, false_and, and_self, not_true_eq_false, not_false_eq_true, ↓reduceIte, Int.toNat_natCast, tqb_z, tqb_t, tqb_f, r_many R1, e3']
      exact Or.inl ⟨J3, rfl, F1.tr F3, by simpa using Q3⟩
    · obtain ⟨J3, J4, e3, e4, e5, Q4, F4, _⟩ := r_rstep R1 G1 (by omega) E hi T1 Q1 hW sf
      have e3' : FX12_triesCut J1 L2 136 (zI 2) (zI (i : Int)) = some (true, J3) := e3
      have e4' : FX12_kindOf J3 L2 136 (zI 2) (zI (i : Int)) = some (zI (M (pl w i) : Nat)) := e4
      have e5' : FX12_isRicher J3 L2 136 (zI 3) (zI ((W : Int) + (wor (M (pl w i)) : Nat))) = some J4 := e5
      simp (disch := omega) only [zlet, obind, zI_lit, zI_neg, zI_add, zI_sub, zI_mul, zI_div, zI_le, zI_lt, zI_eq, zI_cl, irem, ile_t, ile_f, ilt_t, ilt_f, ieq_t, ieq_f, and_true, true_and, and_false, false_and, and_self, not_true_eq_false, not_false_eq_true, ↓reduceIte, Int.toNat_natCast, tqb_z, tqb_t, tqb_f, r_many R1, e3', e4', r_worth _ _ (G.2.1 _), e5', btf]
      refine Or.inl ⟨J4, rfl, F1.tr F4, ?_⟩
      unfold dbo
      exact Q4) (fun J1 hJ => by
    unfold FX12_richThird_s8
    simp (disch := omega) only [zlet, obind, zI_lit, zI_neg, zI_add, zI_sub, zI_mul, zI_div, zI_le, zI_lt, zI_eq, zI_cl, irem, ile_t, ile_f, ilt_t, ilt_f, ieq_t, ieq_f, and_true, true_and, and_false, false_and, and_self, not_true_eq_false, not_false_eq_true, ↓reduceIte, Int.toNat_natCast, tqb_z, tqb_t, tqb_f, r_many (R.fw hJ.1)]
    exact ⟨_, rfl, hJ⟩) 0 J0 (by omega) (by omega) ⟨F0.fw, Q0⟩
  refine ⟨J2, L2, ?_, ?_, F2, N0⟩
  · unfold FX12_richThird
    have e0' : FX12_sees J L 136 (2 : Int32) (zI (s : Int)) = some (J0, L2) := e0
    rw [e0', obind]
    exact (congrArg (fun o => Option.bind o _) e).trans (obind _ _)
  · rw [fop_all k (dbo w h s 0 2 M W ρ) (saf w h M s) (fun p q => saf_ar G.2.2 q)] at Q2
    exact Q2
theorem r_second {J : tq_PI} {s n W : Nat} {ρ : Nat → Nat} {r : Rec} (R : RW J w h) (G : GR J w h 1 M) (L : tq_PL) (hs : s < 2) (hn : n = 2 ∨ n = 3) (T : TR w J ρ 1) (Q : RR w J r) (hW : W ≤ 10) : ∃ J2 L2, FX12_richSecond J L 136 (zI (s : Int)) (zI (n : Int)) (zI (W : Int)) = some (J2, L2) ∧ RR w J2 (dfs w h s (n - 1) 1 M W ρ r) ∧ FW 1 J J2 ∧ FM 1 L L2 := by
  have k := R.2.2
  have h48 := wh_le k
  obtain ⟨J0, L0, e0, F0, N0, E⟩ := r_sees R G (by omega) L hs
  have Q0 : RR w J0 r := Q.eq (F0 136 (by omega)) (F0 148 (by omega))
  obtain ⟨⟨J2, L2⟩, e, F2, N2, Q2⟩ := it_for (f := fun p : Int32 × tq_PI × tq_PL => FX12_richSecond_s9 p.2.1 p.2.2 136 (zI (s : Int)) (zI (n : Int)) (zI (W : Int)) p.1) (fun i (s : tq_PI × tq_PL) => (zI (i : Int), s.1, s.2)) (w * h) (fun i x => FW 1 J x.1 ∧ FM 2 L0 x.2 ∧ RR w x.1 (fop (fun t i => dbo w h s (n - 2) 1 M W ρ t (pl w i)) (fun i => saf w h M s (pl w i)) i r)) (Post := fun x => FW 1 J x.1 ∧ FM 2 L0 x.2 ∧ RR w x.1 (fop (fun t i => dbo w h s (n - 2) 1 M W ρ t (pl w i)) (fun i => saf w h M s (pl w i)) (w * h) r)) (fun i x hi hJ => by
    obtain ⟨J1, L1⟩ := x
    obtain ⟨F1, N1, Q1⟩ := hJ
    dsimp only at F1 N1 Q1 ⊢
    have R1 := R.fw F1
    have G1 := G.fw k F1 (by omega)
    have T1 := T.fw F1 (by omega)
    have E1 := E.fm N1
    unfold FX12_richSecond_s9 FX12_richSecond_j64L9
    rw [fop_s]
    cases sf : saf w h M s (pl w i)
    · obtain ⟨J3, e3, Q3, F3⟩ := r_rno R1 G1 (by omega) E1 hi Q1 sf
      have e3' : FX12_triesCut J1 L1 136 (zI 1) (zI (i : Int)) = some (false, J3) := e3
      simp (disch := omega) only [zlet, obind, zI_lit, zI_neg, zI_add, zI_sub, zI_mul, zI_div, zI_le, zI_lt, zI_eq, zI_cl, irem, ile_t, ile_f, ilt_t, ilt_f, ieq_t, ieq_f, and_true, true_and, and_false, false_and, and_self, not_true_eq_false, not_false_eq_true, ↓reduceIte, Int.toNat_natCast, tqb_z, tqb_t, tqb_f, r_many R1, e3']
      exact Or.inl ⟨(J3, L1), rfl, F1.tr F3, N1, by simpa using Q3⟩
    · obtain ⟨J3, J4, e3, e4, e5, Q4, F4, G4, T4⟩ := r_rstep (W := W) R1 G1 (by omega) E1 hi T1 Q1 (by omega) sf
      have w4 := wor_le (M (pl w i))
      have e3' : FX12_triesCut J1 L1 136 (zI 1) (zI (i : Int)) = some (true, J3) := e3
      have e4' : FX12_kindOf J3 L1 136 (zI 1) (zI (i : Int)) = some (zI (M (pl w i) : Nat)) := e4
      have e5' : FX12_isRicher J3 L1 136 (zI 2) (zI ((W : Int) + (wor (M (pl w i)) : Nat))) = some J4 := e5
      simp (disch := omega) only [zlet, obind, zI_lit, zI_neg, zI_add, zI_sub, zI_mul, zI_div, zI_le, zI_lt, zI_eq, zI_cl, irem, ile_t, ile_f, ilt_t, ilt_f, ieq_t, ieq_f, and_true, true_and, and_false, false_and, and_self, not_true_eq_false, not_false_eq_true, ↓reduceIte, Int.toNat_natCast, tqb_z, tqb_t, tqb_f, r_many R1, e3', e4', r_worth _ _ (G.2.1 _), e5', btf]
      rcases hn with rfl | rfl
      · rw [if_pos (by decide)]
        refine Or.inl ⟨(J4, L1), rfl, F1.tr F4, N1, ?_⟩
        unfold dbo
        exact Q4
      · rw [if_neg (by decide)]
        obtain ⟨J5, L5, e6, Q6, F6, N6⟩ := r_third (R1.fw F4) G4 L1 hs T4 Q4 (W := W + wor (M (pl w i))) (by omega)
        have e6' : FX12_richThird J4 L1 136 (zI (s : Int)) (zI ((W : Int) + (wor (M (pl w i)) : Nat))) = some (J5, L5) := e6
        rw [e6', obind]
        have F5 := (F1.tr F4).tr (FW.lo F6 (Nat.le_succ _))
        refine Or.inl ⟨(J5, L5), rfl, F5, N1.tr N6, ?_⟩
        unfold dbo
        exact Q6) (fun x hJ => by
    unfold FX12_richSecond_s9
    simp (disch := omega) only [zlet, obind, zI_lit, zI_neg, zI_add, zI_sub, zI_mul, zI_div, zI_le, zI_lt, zI_eq, zI_cl, irem, ile_t, ile_f, ilt_t, ilt_f, ieq_t, ieq_f, and_true, true_and, and_false, false_and, and_self, not_true_eq_false, not_false_eq_true, ↓reduceIte, Int.toNat_natCast, tqb_z, tqb_t, tqb_f, r_many (R.fw hJ.1)]
    exact ⟨_, rfl, hJ⟩) 0 (J0, L0) (by omega) (by omega) ⟨F0.fw, FM.rf, Q0⟩
  refine ⟨J2, L2, ?_, ?_, F2, N0.tr (N2.lo (by omega))⟩
  · unfold FX12_richSecond
    have e0' : FX12_sees J L 136 (1 : Int32) (zI (s : Int)) = some (J0, L0) := e0
    rw [e0', obind]
    exact (congrArg (fun o => Option.bind o _) e).trans (obind _ _)
  · dsimp only at Q2
    rw [fop_all k (dbo w h s (n - 2) 1 M W ρ) (saf w h M s) (fun p q => saf_ar G.2.2 q)] at Q2
    rcases hn with rfl | rfl
    · exact Q2
    · exact Q2
theorem r_riches {J1 J2 : tq_PI} {s n : Nat} (L : tq_PL) (ea : FX12_asTold J1 L 136 = some J2) (R : RW J2 w h) (G : GR J2 w h 0 M) (hs : s < 2) (hn : n ≤ 3) : ∃ J3 L3, FX12_riches J1 L 136 (zI (s : Int)) (zI (n : Int)) = some (J3, L3) ∧ RR w J3 (dfs w h s n 0 M 0 (fun _ => 0) (0, 0, fun _ => 0)) ∧ FP J2 J3 ∧ FM 0 L L3 := by
  have k := R.2.2
  have h48 := wh_le k
  obtain ⟨Ja, hJa⟩ : ∃ Ja, Ja = tq_up2 (tq_up2 J2 136 29 (0 : Int32)) 136 28 (0 : Int32) := ⟨_, rfl⟩
  have Fa : FW 0 J2 Ja := by
    rw [hJa]
    exact fun a j q1 _ _ _ _ => by rw [up_n _ _ (by omega), up_n _ _ (by omega)]
  have Qa : RR w Ja (0, 0, fun _ => 0) := by
    rw [hJa]
    exact ⟨by rw [up_n _ _ (by omega), up_s]; rfl, by rw [up_s]; rfl, Nat.zero_le _, Nat.zero_le _, fun k hk => absurd hk (Nat.not_lt_zero k)⟩
  unfold FX12_riches
  rw [ea, obind, ← hJa]
  by_cases n0 : n = 0
  · subst n0
    rw [if_pos (show zI ((0 : Nat) : Int) = 0 from rfl)]
    exact ⟨Ja, L, rfl, Qa, Fa.fp, FM.rf⟩
  · rw [if_neg (by rw [zI_lit, zI_eq (by omega) (by omega)]; omega)]
    have Ra := R.fw Fa
    have Ga := G.fw k Fa (by omega)
    obtain ⟨J0, L0, e0, F0, N0, E⟩ := r_sees Ra Ga (by omega) L hs
    have Q0 : RR w J0 (0, 0, fun _ => 0) := Qa.eq (F0 136 (by omega)) (F0 148 (by omega))
    have e0' : FX12_sees Ja L 136 (0 : Int32) (zI (s : Int)) = some (J0, L0) := e0
    rw [e0', obind]
    obtain ⟨⟨J3, L3⟩, e, F3, N3, Q3⟩ := it_for (f := fun p : Int32 × tq_PI × tq_PL => FX12_riches_s27 p.2.1 p.2.2 136 (zI (s : Int)) (zI (n : Int)) p.1) (fun i (s : tq_PI × tq_PL) => (zI (i : Int), s.1, s.2)) (w * h) (fun i x => FW 0 Ja x.1 ∧ FM 1 L0 x.2 ∧ RR w x.1 (fop (fun t i => dbo w h s (n - 1) 0 M 0 (fun _ => 0) t (pl w i)) (fun i => saf w h M s (pl w i)) i (0, 0, fun _ => 0))) (Post := fun x => FW 0 Ja x.1 ∧ FM 1 L0 x.2 ∧ RR w x.1 (fop (fun t i => dbo w h s (n - 1) 0 M 0 (fun _ => 0) t (pl w i)) (fun i => saf w h M s (pl w i)) (w * h) (0, 0, fun _ => 0))) (fun i x hi hJ => by
      obtain ⟨J1, L1⟩ := x
      obtain ⟨F1, N1, Q1⟩ := hJ
      dsimp only at F1 N1 Q1 ⊢
      have R1 := Ra.fw F1
      have G1 := Ga.fw k F1 (by omega)
      have T1 : TR w J1 (fun _ => 0) 0 := fun k hk => absurd hk (Nat.not_lt_zero k)
      have E1 := E.fm N1
      unfold FX12_riches_s27 FX12_riches_j78L27
      rw [fop_s]
      cases sf : saf w h M s (pl w i)
      · obtain ⟨J3, e3, Q3, F3⟩ := r_rno R1 G1 (by omega) E1 hi Q1 sf
        have e3' : FX12_triesCut J1 L1 136 (zI 0) (zI (i : Int)) = some (false, J3) := e3
        simp (disch := omega) only [zlet, obind, zI_lit, zI_neg, zI_add, zI_sub, zI_mul, zI_div, zI_le, zI_lt, zI_eq, zI_cl, irem, ile_t, ile_f, ilt_t, ilt_f, ieq_t, ieq_f, and_true, true_and, and_false, false_and, and_self, not_true_eq_false, not_false_eq_true, ↓reduceIte, Int.toNat_natCast, tqb_z, tqb_t, tqb_f, r_many R1, e3']
        exact Or.inl ⟨(J3, L1), rfl, F1.tr F3, N1, by simpa using Q3⟩
      · obtain ⟨J3, J4, e3, e4, e5, Q4, F4, G4, T4⟩ := r_rstep (W := 0) R1 G1 (by omega) E1 hi T1 Q1 (by omega) sf
        have w4 := wor_le (M (pl w i))
        have e3' : FX12_triesCut J1 L1 136 (zI 0) (zI (i : Int)) = some (true, J3) := e3
        have e4' : FX12_kindOf J3 L1 136 (zI 0) (zI (i : Int)) = some (zI (M (pl w i) : Nat)) := e4
        have e5' : FX12_isRicher J3 L1 136 (zI 1) (zI (wor (M (pl w i)) : Nat)) = some J4 := by
          simp only [Nat.zero_add] at e5
          exact e5
        simp (disch := omega) only [zlet, obind, zI_lit, zI_neg, zI_add, zI_sub, zI_mul, zI_div, zI_le, zI_lt, zI_eq, zI_cl, irem, ile_t, ile_f, ilt_t, ilt_f, ieq_t, ieq_f, and_true, true_and, and_false, false_and, and_self, not_true_eq_false, not_false_eq_true, ↓reduceIte, Int.toNat_natCast, tqb_z, tqb_t, tqb_f, r_many R1, e3', e4', r_worth _ _ (G.2.1 _), e5', btf]
        by_cases n1 : n = 1
        · subst n1
          rw [if_pos (by decide)]
          refine Or.inl ⟨(J4, L1), rfl, F1.tr F4, N1, ?_⟩
          unfold dbo
          exact Q4
        · rw [if_neg (by omega)]
          obtain ⟨J5, L5, e6, Q6, F6, N6⟩ := r_second (n := n) (R1.fw F4) G4 L1 hs (by omega) T4 Q4 (W := 0 + wor (M (pl w i))) (by omega)
          have e6' : FX12_richSecond J4 L1 136 (zI (s : Int)) (zI (n : Int)) (zI (wor (M (pl w i)) : Nat)) = some (J5, L5) := by
            simp only [Nat.zero_add] at e6
            exact e6
          rw [e6', obind]
          have F5 := (F1.tr F4).tr (FW.lo F6 (Nat.le_succ _))
          refine Or.inl ⟨(J5, L5), rfl, F5, N1.tr N6, ?_⟩
          unfold dbo
          exact Q6) (fun x hJ => by
      unfold FX12_riches_s27
      simp (disch := omega) only [zlet, obind, zI_lit, zI_neg, zI_add, zI_sub, zI_mul, zI_div, zI_le, zI_lt, zI_eq, zI_cl, irem, ile_t, ile_f, ilt_t, ilt_f, ieq_t, ieq_f, and_true, true_and, and_false, false_and, and_self, not_true_eq_false, not_false_eq_true, ↓reduceIte, Int.toNat_natCast, tqb_z, tqb_t, tqb_f, r_many (Ra.fw hJ.1)]
      exact ⟨_, rfl, hJ⟩) 0 (J0, L0) (by omega) (by omega) ⟨F0.fw, FM.rf, Q0⟩
    refine ⟨J3, L3, ?_, ?_, Fa.fp.tr F3.fp, N0.tr (N3.lo (by omega))⟩
    · exact (congrArg (fun o => Option.bind o _) e).trans (obind _ _)
    · dsimp only at Q3
      rw [fop_all k (dbo w h s (n - 1) 0 M 0 (fun _ => 0)) (saf w h M s) (fun p q => saf_ar G.2.2 q)] at Q3
      obtain ⟨m, rfl⟩ : ∃ m, n = m + 1 := ⟨n - 1, by omega⟩
      exact Q3
end RV
theorem q_rich {I : tq_PI} {L : tq_PL} (V : HV I L 1 0) (x y u o : Int32) : ∃ v I2 L2, FX11_rich I L 0 x y u o = some (v, I2, L2) ∧ (FP I I2 ∧ FP L L2) ∧ ∀ J M, J 137 = I 137 → ∃ J2 M2, FX12_rich J M 136 x y u o = some (v, J2, M2) ∧ FP J J2 ∧ FM 0 M M2 := by
  rcases hill_case V x with ⟨e, r⟩ | ⟨i, w, h, K, hi, rfl, e, H, S, r⟩
  · exact ⟨-1, I, L, by unfold FX11_rich; rw [rg_0_0, e, obind]; rfl, ⟨FP.rf, FP.rf⟩, fun J M hJ => ⟨J, M, by unfold FX12_rich; rw [r J M hJ, obind]; rfl, FP.rf, FM.rf⟩⟩
  · obtain ⟨z, hz, rfl⟩ := zI_of y
    obtain ⟨t, ht, rfl⟩ := zI_of u
    obtain ⟨j, hj, rfl⟩ := zI_of o
    have t0 : tq_b false = 0 := rfl
    have t1 : ¬ tq_b true = 0 := by decide
    by_cases sd : z = 0 ∨ z = 1
    · obtain ⟨s, rfl⟩ : ∃ s : Nat, z = s := ⟨z.toNat, by omega⟩
      have hs : s < 2 := by omega
      by_cases g : 0 ≤ t ∧ t ≤ 3
      · obtain ⟨n, rfl⟩ : ∃ n : Nat, t = n := ⟨t.toNat, by omega⟩
        obtain ⟨I2, L2, e1, F1, F2, C⟩ := c_richest H S hs (n := n) (by omega) (by omega)
        generalize hrr : dfs w h s n 0 K 0 (fun _ => 0) (0, 0, fun _ => 0) = rr at C
        obtain ⟨c1, c2, c3, c4, c5⟩ := C
        refine ⟨zI (if j = -1 then (rr.1 : Int) else if j = -2 then (rr.2.1 : Int) else if 0 ≤ j ∧ j < rr.2.1 then (cl w (rr.2.2 j.toNat) : Nat) else -1), I2, L2, ?_, ⟨F1.fp, F2.fp (by unfold psl; omega)⟩, fun J M hJ => ?_⟩
        · unfold FX11_rich
          rw [rg_0_0, e, obind, oel_s, zlet, c_isSide _ _ hz, decide_eq_true sd, if_neg t1, if_neg (by rw [zI_lit, zI_lt (by omega) (by omega)]; omega), if_pos (by rw [zI_lit, zI_le (by omega) (by omega)]; omega), rg_0_5, e1, obind]
          dsimp only
          by_cases j1 : j = -1
          · rw [if_pos (by rw [j1]; rfl), if_pos j1, c1]
          · rw [if_neg (by rw [zI_lit, zI_neg, zI_eq (by omega) (by omega)]; exact j1), if_neg j1]
            by_cases j2 : j = -2
            · rw [if_pos (by rw [j2]; rfl), if_pos j2, c2]
            · rw [if_neg (by rw [zI_lit, zI_neg, zI_eq (by omega) (by omega)]; exact j2), if_neg j2]
              unfold FX5_cellAt FX5_cellAt_j21
              by_cases j3 : j < 0
              · rw [if_pos (by rw [zI_lit, zI_lt (by omega) (by omega)]; exact j3), obind, if_neg (by omega)]
                rfl
              · rw [if_neg (by rw [zI_lit, zI_lt (by omega) (by omega)]; exact j3)]
                by_cases j4 : (rr.2.1 : Int) ≤ j
                · rw [if_pos (by rw [c2, zI_le (by omega) (by omega)]; exact j4), obind, if_neg (by omega)]
                  rfl
                · rw [if_neg (by rw [c2, zI_le (by omega) (by omega)]; exact j4), if_pos (by rw [zI_lit, zI_lt (by omega) (by omega)]; omega), if_pos (by rw [show (0 : Int32) = zI 0 from rfl, show (3 : Int32) = zI 3 from rfl, zI_le (by omega) (by omega), zI_lt (by omega) (by omega)]; omega), obind, rg_45_1, zI_cl (by omega), c5 j.toNat (by omega), if_pos (by omega)]
        · obtain ⟨J1, J2, k1, k2, R1, R2, G2, P3, P4, -⟩ := r J M hJ
          unfold FX12_rich FX12_rich_j31
          rw [k1, obind]
          dsimp only
          rw [if_neg t1, zlet, r_isSide _ _ hz, decide_eq_true sd, if_neg t1, zlet, show (0 : Int32) = zI 0 from rfl, show (3 : Int32) = zI 3 from rfl, r_isIn _ _ (by omega) (by omega) (by omega), decide_eq_true g, show zI 0 = (0 : Int32) from rfl, if_neg t1]
          by_cases jm : -2 ≤ j
          · obtain ⟨J3, M3, e3, Q3, F3, N3⟩ := r_riches M k2 R2 G2 hs (n := n) (by omega)
            rw [hrr] at Q3
            obtain ⟨q1, q2, q3, q4, q5⟩ := Q3
            rw [if_pos (by rw [zI_lit, zI_neg, zI_le (by omega) (by omega)]; exact jm), e3, obind]
            dsimp only
            refine ⟨J3, M3, ?_, P4.tr F3, N3⟩
            by_cases j1 : j = -1
            · rw [if_pos (by rw [j1]; rfl), if_pos j1, q1]
            · rw [if_neg (by rw [zI_lit, zI_neg, zI_eq (by omega) (by omega)]; exact j1), if_neg j1]
              by_cases j2 : j = -2
              · rw [if_pos (by rw [j2]; rfl), if_pos j2, q2]
              · rw [if_neg (by rw [zI_lit, zI_neg, zI_eq (by omega) (by omega)]; exact j2), if_neg j2]
                by_cases j4 : (rr.2.1 : Int) ≤ j
                · rw [if_pos (by rw [q2, zI_le (by omega) (by omega)]; exact j4), if_neg (by omega)]
                  rfl
                · rw [if_neg (by rw [q2, zI_le (by omega) (by omega)]; exact j4), if_pos (by rw [show (0 : Int32) = zI 0 from rfl, zI_le (by omega) (by omega), zI_lt (by omega) (by omega)]; omega), g27, zI_cl (by omega), q5 j.toNat (by omega), if_pos (by omega)]
          · rw [if_neg (by rw [zI_lit, zI_neg, zI_le (by omega) (by omega)]; exact jm)]
            refine ⟨J1, M, ?_, P3, FM.rf⟩
            rw [if_neg (by omega), if_neg (by omega), if_neg (by omega)]
            rfl
      · refine ⟨-1, I, L, ?_, ⟨FP.rf, FP.rf⟩, fun J M hJ => ?_⟩
        · unfold FX11_rich FX11_rich_j31
          rw [rg_0_0, e, obind, oel_s, zlet, c_isSide _ _ hz, decide_eq_true sd, if_neg t1]
          by_cases z0 : t < 0
          · rw [if_pos (by rw [zI_lit, zI_lt (by omega) (by omega)]; exact z0)]
          · rw [if_neg (by rw [zI_lit, zI_lt (by omega) (by omega)]; exact z0), if_neg (by rw [zI_lit, zI_le (by omega) (by omega)]; omega)]
        · obtain ⟨J1, J2, k1, k2, R1, R2, G2, P3, P4, -⟩ := r J M hJ
          refine ⟨J1, M, ?_, P3, FM.rf⟩
          unfold FX12_rich FX12_rich_j31
          rw [k1, obind]
          dsimp only
          rw [if_neg t1, zlet, r_isSide _ _ hz, decide_eq_true sd, if_neg t1, zlet, show (0 : Int32) = zI 0 from rfl, show (3 : Int32) = zI 3 from rfl, r_isIn _ _ (by omega) (by omega) (by omega), decide_eq_false g, show zI 0 = (0 : Int32) from rfl, if_pos t0]
    · refine ⟨-1, I, L, ?_, ⟨FP.rf, FP.rf⟩, fun J M hJ => ?_⟩
      · unfold FX11_rich FX11_rich_j31
        rw [rg_0_0, e, obind, oel_s, zlet, c_isSide _ _ hz, decide_eq_false sd, if_pos t0]
      · obtain ⟨J1, J2, k1, k2, R1, R2, G2, P3, P4, -⟩ := r J M hJ
        refine ⟨J1, M, ?_, P3, FM.rf⟩
        unfold FX12_rich FX12_rich_j31
        rw [k1, obind]
        dsimp only
        rw [if_neg t1, zlet, r_isSide _ _ hz, decide_eq_false sd, if_pos t0]
