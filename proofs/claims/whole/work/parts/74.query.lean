/-! QUERIES: path. -/
theorem rg_0_9 : tq_rg 0 9 = 54 := by decide +kernel
def FL (b : Nat) (L M : tq_PL) : Prop := ∀ a, a ≠ b → M a = L a
theorem FL.rf {b : Nat} {L : tq_PL} : FL b L L := fun _ _ => rfl
theorem FL.tr {b : Nat} {L M N : tq_PL} (h : FL b L M) (k : FL b M N) : FL b L N := fun a q => (k a q).trans (h a q)
theorem FL.up {b j : Nat} {L : tq_PL} {x : Int64} : FL b L (tq_up2 L b j x) := fun _ q => tq_up2_ne q
theorem FL.fp {b : Nat} {L M : tq_PL} (h : FL b L M) (q : ¬ psl b) : FP L M := fun a p => h a (fun e => q (e ▸ p))
theorem HC.fl {I : tq_PI} {L M : tq_PL} {a b w h : Nat} {K : Nat → Nat} (H : HC I L a w h K) (F : FL b L M) (q : a ≠ b) : HC I M a w h K := by
  unfold HC
  rw [F a q]
  exact H
section PA
variable {I : tq_PI} {w h a : Nat} {K : Nat → Nat}
theorem Wk_step (k : wh w h) (le : ∀ p, K p ≤ 4) {n t p : Nat} (hn : 1 ≤ n) : Wk w h K 0 (n + 1) t p ↔ (air w h K p = true ∧ ∃ q, Wk w h K 0 n t q ∧ adj q p) ∨ (sto K p = true ∧ ar w h p = true ∧ ∃ u, t = u + 1 ∧ ∃ q, Wk w h K 0 n u q ∧ adj q p) := by
  obtain ⟨m, rfl⟩ : ∃ m, n = m + 1 := ⟨n - 1, by omega⟩
  constructor
  · rintro ⟨q, u, q1, a, b, c, e⟩
    cases st : sto K p
    · simp only [cst, st, Bool.false_eq_true, if_false, Nat.add_zero] at e
      exact Or.inl ⟨air_of (le p) b c st, q, by rw [e]; exact q1, a⟩
    · simp only [cst, st, if_true] at e
      exact Or.inr ⟨rfl, b, u, e, q, q1, a⟩
  · rintro (⟨ha, q, q1, a⟩ | ⟨st, ha, u, e, q, q1, a⟩)
    · obtain ⟨a1, a2, a3⟩ := cst_air ha
      exact ⟨q, t, q1, a, a1, a2, by rw [a3]; rfl⟩
    · have : cst K p = 1 := by simp [cst, st]
      have k4 : K p ≠ 4 := by simp only [sto, decide_eq_true_eq] at st; omega
      exact ⟨q, u, q1, a, ha, k4, by rw [this]; exact e⟩
def WS (L : tq_PL) (w h : Nat) (K : Nat → Nat) (n T : Nat) : Prop := ∀ s, s ≤ T → ∀ p, bb (L 54 s) p = true ↔ Wk w h K 0 n s p
theorem c_way_s {L : tq_PL} (H : HC I L a w h K) (ha54 : a ≠ 54) {n T : Nat} (hn : 1 ≤ n) (hT : T ≤ 48) (W : WS L w h K n T) (c : Int32) : ∃ M, tq_it (fun p : Int32 × tq_PL => FX3_shortestWay_s83 I p.2 a (zI (T : Int)) 54 c p.1) tq_N (zI (T : Int), L) = some M ∧ FL 54 L M ∧ WS M w h K (n + 1) T := by
  have k := H.k
  have W0 : ∀ s, s ≤ T → ∀ q, bb (L 54 s) q = true → q < 48 := fun s hs q r => ar_lt k.2.2.2 (Wk_ar ((W s hs q).1 r)).1
  obtain ⟨M, e, F, h1⟩ := it_for (f := fun p : Int32 × tq_PL => FX3_shortestWay_s83 I p.2 a (zI (T : Int)) 54 c p.1) (fun i (M : tq_PL) => (zI ((T : Int) - i), M)) (T + 1) (fun i M => FL 54 L M ∧ (∀ s, s ≤ T → s + i ≤ T → M 54 s = L 54 s) ∧ ∀ s, s ≤ T → T < s + i → ∀ p, bb (M 54 s) p = true ↔ Wk w h K 0 (n + 1) s p) (Post := fun M => FL 54 L M ∧ WS M w h K (n + 1) T) (fun i M hi hM => by
    obtain ⟨F, h1, h2⟩ := hM
    have HM := H.fl F ha54
    obtain ⟨s, hs⟩ : ∃ s : Nat, s + i = T := ⟨T - i, by omega⟩
    have es : (T : Int) - (i : Int) = (s : Int) := by omega
    have en : (s : Int) + -1 = (T : Int) - ((i + 1 : Nat) : Int) := by omega
    have fin : ∀ b0 : Int64, (∀ q, bb b0 q = true ↔ ∃ u, s = u + 1 ∧ Wk w h K 0 n u q) → (∃ s2, FX3_shortestWay_j103L83 I M a (zI (T : Int)) 54 c (zI (s : Int)) b0 = some (.inl (zI ((T : Int) - ((i + 1 : Nat) : Int)), s2)) ∧ FL 54 L s2 ∧ (∀ s, s ≤ T → s + (i + 1) ≤ T → s2 54 s = L 54 s) ∧ ∀ s, s ≤ T → T < s + (i + 1) → ∀ p, bb (s2 54 s) p = true ↔ Wk w h K 0 (n + 1) s p) := fun b0 hb => by
      refine ⟨tq_up2 M 54 s ((FX11_nextTo I M (M 54 s) &&& FX3_air I M a) ||| (FX11_nextTo I M b0 &&& FX3_stones I M a)), ?_, F.tr FL.up, fun s1 hs1 hs2 => ?_, fun s1 hs1 hs2 p => ?_⟩
      · unfold FX3_shortestWay_j103L83
        simp (disch := omega) only [zlet, obind, zI_lit, zI_neg, zI_add, zI_sub, zI_mul, zI_div, zI_le, zI_lt, zI_eq, zI_cl, irem, ile_t, ile_f, ilt_t, ilt_f, ieq_t, ieq_f, and_true, true_and, and_false, false_and, and_self, not_true_eq_false, not_false_eq_true, ↓reduceIte, Int.toNat_natCast, tqb_z, tqb_t, tqb_f, en]
      · rw [up_n _ _ (Or.inr (by omega))]
        exact h1 s1 hs1 (by omega)
      · by_cases q : s1 = s
        · rw [q, up_s, bb_or, bb_and, bb_and, c_air HM, c_sto HM, h1 s (by omega) (by omega), Bool.or_eq_true, Bool.and_eq_true, Bool.and_eq_true, Wk_step k H.le hn]
          constructor
          · rintro (⟨r1, r2⟩ | ⟨r1, r2⟩)
            · rw [c_nxt _ (air_48 k r2), nxt_iff] at r1
              obtain ⟨q1, r3, r4⟩ := r1
              exact Or.inl ⟨r2, q1, (W s (by omega) q1).1 r3, r4⟩
            · have ap := sto_ar H.z r2
              rw [c_nxt _ (ar_lt k.2.2.2 ap), nxt_iff] at r1
              obtain ⟨q1, r3, r4⟩ := r1
              obtain ⟨u, r5, r6⟩ := (hb q1).1 r3
              exact Or.inr ⟨r2, ap, u, r5, q1, r6, r4⟩
          · rintro (⟨r1, q1, r2, r3⟩ | ⟨r1, r2, u, r3, q1, r4, r5⟩)
            · refine Or.inl ⟨?_, r1⟩
              rw [c_nxt _ (air_48 k r1), nxt_iff]
              exact ⟨q1, (W s (by omega) q1).2 r2, r3⟩
            · refine Or.inr ⟨?_, r1⟩
              rw [c_nxt _ (ar_lt k.2.2.2 r2), nxt_iff]
              exact ⟨q1, (hb q1).2 ⟨u, r3, r4⟩, r5⟩
        · rw [up_n _ _ (Or.inr q)]
          exact h2 s1 hs1 (by omega) p
    unfold FX3_shortestWay_s83
    rw [es]
    simp (disch := omega) only [zlet, obind, zI_lit, zI_neg, zI_add, zI_sub, zI_mul, zI_div, zI_le, zI_lt, zI_eq, zI_cl, irem, ile_t, ile_f, ilt_t, ilt_f, ieq_t, ieq_f, and_true, true_and, and_false, false_and, and_self, not_true_eq_false, not_false_eq_true, ↓reduceIte, Int.toNat_natCast, tqb_z, tqb_t, tqb_f]
    by_cases q : s = 0
    · rw [if_pos (by omega)]
      exact Or.inl (fin 0 fun q1 => by
        rw [bb_0]
        constructor
        · intro r; cases r
        · rintro ⟨u, r, _⟩; omega)
    · rw [if_neg (by omega)]
      have ei : ((s : Int) - 1).toNat = s - 1 := by omega
      rw [ei]
      refine Or.inl (fin _ fun q1 => ?_)
      rw [h1 (s - 1) (by omega) (by omega), W (s - 1) (by omega)]
      constructor
      · intro r; exact ⟨s - 1, by omega, r⟩
      · rintro ⟨u, r, r2⟩
        rw [show s - 1 = u by omega]
        exact r2) (fun M hM => by
    unfold FX3_shortestWay_s83
    have : (T : Int) - ((T + 1 : Nat) : Int) = -1 := by omega
    rw [this]
    simp (disch := omega) only [zlet, obind, zI_lit, zI_neg, zI_add, zI_sub, zI_mul, zI_div, zI_le, zI_lt, zI_eq, zI_cl, irem, ile_t, ile_f, ilt_t, ilt_f, ieq_t, ieq_f, and_true, true_and, and_false, false_and, and_self, not_true_eq_false, not_false_eq_true, ↓reduceIte, Int.toNat_natCast, tqb_z, tqb_t, tqb_f]
    exact ⟨_, rfl, hM.1, fun s hs p => hM.2.2 s hs (by omega) p⟩) 0 L (by omega) (by omega) ⟨FL.rf, fun _ _ _ => rfl, fun s h1 h2 => by omega⟩
  refine ⟨M, ?_, F, h1⟩
  have : (zI (T : Int), L) = ((fun (i : Nat) (M : tq_PL) => (zI ((T : Int) - i), M)) 0 L) := by simp
  rw [this]
  exact e
theorem c_way {L : tq_PL} (H : HC I L a w h K) (ha54 : a ≠ 54) {D : Nat → Nat} (d : isD w h K 0 D) {v : Nat} (hv : v < 99999) (h1 : ∃ p, edg w h 1 p = true ∧ v = D p) (h2 : ∀ p, edg w h 1 p = true → v ≤ D p) : ∃ M, FX3_shortestWay I L a (zI ((v / 100 : Nat) : Int)) 54 = some (zI ((v % 100 : Nat) : Int), M) ∧ FL 54 L M := by
  have k := H.k
  obtain ⟨p0, g0, e0⟩ := h1
  obtain ⟨B, T, hB, wk, eB⟩ : ∃ n t, n ≤ 48 ∧ Wk w h K 0 n t p0 ∧ D p0 = 100 * t + n := by
    rcases d.1 p0 with e | e
    · omega
    · exact e
  have hTB := Wk_le wk
  have hB1 := Wk_pos wk
  have eT : v / 100 = T := by omega
  have eb : v % 100 = B := by omega
  rw [eT, eb]
  have least : ∀ n p, edg w h 1 p = true → Wk w h K 0 n T p → B ≤ n := fun n p g q => by
    have a1 := h2 p g
    have a2 := (d.2 _ _ _ q).1
    omega
  obtain ⟨L1, e1, F1, z1⟩ := it_for (f := fun p : Int32 × tq_PL => FX3_shortestWay_s14 I p.2 a (zI (T : Int)) 54 p.1) (fun i (M : tq_PL) => (zI (i : Int), M)) (T + 1) (fun i M => FL 54 L M ∧ ∀ s, s < i → M 54 s = 0) (Post := fun M => FL 54 L M ∧ ∀ s, s ≤ T → M 54 s = 0) (fun i M hi hM => by
    unfold FX3_shortestWay_s14
    simp (disch := omega) only [zlet, obind, zI_lit, zI_neg, zI_add, zI_sub, zI_mul, zI_div, zI_le, zI_lt, zI_eq, zI_cl, irem, ile_t, ile_f, ilt_t, ilt_f, ieq_t, ieq_f, and_true, true_and, and_false, false_and, and_self, not_true_eq_false, not_false_eq_true, ↓reduceIte, Int.toNat_natCast, tqb_z, tqb_t, tqb_f]
    refine Or.inl ⟨_, rfl, hM.1.tr FL.up, fun s hs => ?_⟩
    by_cases q : s = i
    · rw [q, up_s]
    · rw [up_n _ _ (Or.inr q)]; exact hM.2 s (by omega)) (fun M hM => by
    unfold FX3_shortestWay_s14
    simp (disch := omega) only [zlet, obind, zI_lit, zI_neg, zI_add, zI_sub, zI_mul, zI_div, zI_le, zI_lt, zI_eq, zI_cl, irem, ile_t, ile_f, ilt_t, ilt_f, ieq_t, ieq_f, and_true, true_and, and_false, false_and, and_self, not_true_eq_false, not_false_eq_true, ↓reduceIte, Int.toNat_natCast, tqb_z, tqb_t, tqb_f]
    exact ⟨_, rfl, hM.1, fun s hs => hM.2 s (by omega)⟩) 0 L (by omega) (by omega) ⟨FL.rf, fun s hs => absurd hs (Nat.not_lt_zero s)⟩
  have H1 := H.fl F1 ha54
  have main : ∀ L3 : tq_PL, FL 54 L L3 → WS L3 w h K 1 T → ∃ M, FX3_shortestWay_j57 I L3 a (zI (T : Int)) 54 = some (zI (B : Int), M) ∧ FL 54 L M := fun L3 F3 W3 => by
    obtain ⟨o, e, M, rfl, FM⟩ := it_for (f := fun p : Int32 × tq_PL => FX3_shortestWay_s59 I p.2 a (zI (T : Int)) 54 p.1) (fun i (M : tq_PL) => (zI (i : Int), M)) 49 (fun i M => 1 ≤ i ∧ FL 54 L M ∧ WS M w h K i T ∧ i ≤ B) (Post := fun o => ∃ M, o = .inr (zI (B : Int), M) ∧ FL 54 L M) (fun i M hi hM => by
      obtain ⟨i1, FM, WM, iB⟩ := hM
      have HM := H.fl FM ha54
      unfold FX3_shortestWay_s59
      simp (disch := omega) only [zlet, obind, zI_lit, zI_neg, zI_add, zI_sub, zI_mul, zI_div, zI_le, zI_lt, zI_eq, zI_cl, irem, ile_t, ile_f, ilt_t, ilt_f, ieq_t, ieq_f, and_true, true_and, and_false, false_and, and_self, not_true_eq_false, not_false_eq_true, ↓reduceIte, Int.toNat_natCast, tqb_z, tqb_t, tqb_f, lgz]
      by_cases q : M 54 T &&& M a 4 = 0
      · rw [if_pos q]
        obtain ⟨M2, eM2, F2, W2⟩ := c_way_s HM ha54 i1 (by omega) WM (zI (i : Int))
        refine Or.inl ⟨M2, (congrArg (fun o => Option.bind o _) eM2).trans (obind _ _), by omega, FM.tr F2, W2, ?_⟩
        by_cases iB2 : i = B
        · rw [iB2] at WM
          exact (bb_meet.1 q p0 ((WM T (Nat.le_refl _) p0).2 wk) (by rw [HM.east]; exact g0)).elim
        · omega
      · rw [if_neg q]
        obtain ⟨p, hp1, hp2⟩ := bb_meet_ne q
        rw [HM.east] at hp2
        have := least i p hp2 ((WM T (Nat.le_refl _) p).1 hp1)
        refine Or.inr ⟨_, rfl, M, ?_, FM⟩
        rw [show B = i by omega]) (fun M hM => by
      have := hM.2.2.2
      omega) 1 L3 (by omega) (by omega) ⟨by omega, F3, W3, hB1⟩
    refine ⟨M, ?_, FM⟩
    unfold FX3_shortestWay_j57
    exact (congrArg (fun o => Option.bind o _) e).trans (obind _ _)
  have hT48 : T ≤ 48 := by omega
  unfold FX3_shortestWay
  simp (disch := omega) only [zI_lit, zI_lt, zI_le]
  rw [if_neg (by omega), if_pos (by omega)]
  have e1' : tq_it (fun p : Int32 × tq_PL => FX3_shortestWay_s14 I p.2 a (zI (T : Int)) 54 p.1) tq_N (zI 0, L) = some L1 := e1
  rw [e1', obind, zlet]
  have ww : bb (L1 a 3 &&& FX3_air I L1 a) = fun p => edg w h 0 p && air w h K p := funext fun p => by rw [bb_and, H1.west, c_air H1]
  simp (disch := omega) only [zlet, obind, zI_lit, zI_neg, zI_add, zI_sub, zI_mul, zI_div, zI_le, zI_lt, zI_eq, zI_cl, irem, ile_t, ile_f, ilt_t, ilt_f, ieq_t, ieq_f, and_true, true_and, and_false, false_and, and_self, not_true_eq_false, not_false_eq_true, ↓reduceIte, Int.toNat_natCast, tqb_z, tqb_t, tqb_f, show (0 : Int).toNat = 0 from rfl, show (1 : Int).toNat = 1 from rfl]
  have F2 : FL 54 L (tq_up2 L1 54 0 (L1 a 3 &&& FX3_air I L1 a)) := F1.tr FL.up
  have H2 := H.fl F2 ha54
  have base0 : ∀ p, bb (L1 a 3 &&& FX3_air I L1 a) p = true ↔ Wk w h K 0 1 0 p := fun p => by
    rw [ww, Bool.and_eq_true]
    constructor
    · rintro ⟨r1, r2⟩
      obtain ⟨a1, a2, a3⟩ := cst_air r2
      exact ⟨r1, a2, a3.symm⟩
    · rintro ⟨r1, r2, r3⟩
      refine ⟨r1, air_of (H.le p) (edg_ar r1) r2 ?_⟩
      cases st : sto K p
      · rfl
      · simp [cst, st] at r3
  by_cases q : T = 0
  · rw [if_pos (by omega)]
    refine main _ F2 (fun s hs p => ?_)
    have s0 : s = 0 := by omega
    rw [s0, up_s]
    exact base0 p
  · rw [if_neg (by omega)]
    refine main _ (F2.tr FL.up) (fun s hs p => ?_)
    by_cases s1 : s = 1
    · have a3 : tq_up2 L1 54 0 (L1 a 3 &&& FX3_air I L1 a) a 3 = L1 a 3 := up_n _ _ (Or.inl ha54)
      rw [s1, up_s, a3, bb_and, H1.west, c_sto H2, Bool.and_eq_true]
      constructor
      · rintro ⟨r1, r2⟩
        have k4 : K p ≠ 4 := by simp only [sto, decide_eq_true_eq] at r2; omega
        exact ⟨r1, k4, by simp [cst, r2]⟩
      · rintro ⟨r1, r2, r3⟩
        refine ⟨r1, ?_⟩
        cases st : sto K p
        · simp [cst, st] at r3
        · rfl
    · rw [up_n _ _ (Or.inr s1)]
      by_cases s0 : s = 0
      · rw [s0, up_s]
        exact base0 p
      · rw [up_n _ _ (Or.inr s0), z1 s hs, bb_0]
        constructor
        · intro r; cases r
        · rintro ⟨r1, r2, r3⟩
          have := cst_le K p
          omega
end PA
theorem q_path {I : tq_PI} {L : tq_PL} (V : HV I L 1 0) (x : Int32) : ∃ v L2, FX11_path I L 0 x = some (v, L2) ∧ FP L L2 ∧ ∀ J M, J 137 = I 137 → ∃ J2, FX12_path J M 136 x = some (v, J2) ∧ FP J J2 := by
  rcases hill_case V x with ⟨e, r⟩ | ⟨i, w, h, K, hi, rfl, e, H, S, r⟩
  · exact ⟨-1, L, by unfold FX11_path; rw [rg_0_0, e, obind]; rfl, FP.rf, fun J M hJ => ⟨J, by unfold FX12_path; rw [r J M hJ, obind]; rfl, FP.rf⟩⟩
  · have hD : ∃ D v, isD w h K 0 D ∧ v ≤ 99999 ∧ (v = 99999 ∨ ∃ p, edg w h 1 p = true ∧ v = D p) ∧ (∀ p, edg w h 1 p = true → v ≤ D p) ∧ ∀ J M, J 137 = I 137 → ∃ J2, FX12_path J M 136 (zI (i : Int)) = (if v = 99999 then some (-1, J2) else some (zI ((v % 100 : Nat) : Int), J2)) ∧ FP J J2 := by
      obtain ⟨J1, J2, h1, h2, R1, R2, G2, P1, P2, -⟩ := r I L rfl
      obtain ⟨J3, D, v, e3, F3, d, hv, g1, g2⟩ := r_through R2 G2 (by omega) L
      refine ⟨D, v, d, hv, g1, g2, fun J M hJ => ?_⟩
      obtain ⟨J1, J2, h1, h2, R1, R2, G2, P1, P2, -⟩ := r J M hJ
      obtain ⟨J9, D', v', e9, F9, d', hv', g1', g2'⟩ := r_through R2 G2 (by omega) M
      have := isD_one d' d
      subst this
      have vv : v' = v := by
        have a1 : v ≤ v' := by
          rcases g1' with q | ⟨p, q, q2⟩
          · omega
          · rw [q2]; exact g2 p q
        have a2 : v' ≤ v := by
          rcases g1 with q | ⟨p, q, q2⟩
          · omega
          · rw [q2]; exact g2' p q
        omega
      subst vv
      refine ⟨J9, ?_, P2.tr (F9.fp (by unfold psl; omega))⟩
      have e3' : FX12_throughOf J2 M 136 (zI 0) = some (zI (v' : Int), J9) := e9
      unfold FX12_path
      simp (disch := omega) only [h1, h2, e3', zlet, obind, zI_lit, zI_neg, zI_add, zI_sub, zI_mul, zI_div, zI_le, zI_lt, zI_eq, zI_cl, irem, ile_t, ile_f, ilt_t, ilt_f, ieq_t, ieq_f, and_true, true_and, and_false, false_and, and_self, not_true_eq_false, not_false_eq_true, ↓reduceIte, Int.toNat_natCast, tqb_z, tqb_t, tqb_f, r_isIn, decide_eq_false_iff_not, decide_eq_true_eq, oel_s, oel_n, Bool.false_eq_true, btf, eq_self, or_self, or_false, false_or, or_true, true_or, iand_f, iandl_f, ior_t, ior_f]
      by_cases q : v' = 99999
      · rw [if_pos (by omega), if_pos q]
      · rw [if_neg (by omega), if_neg q]; rfl
    obtain ⟨D, v, d, hv, g1, g2, ref⟩ := hD
    obtain ⟨t, e1, f1⟩ := c_thick H (c_sol H) (sb_rf K) H.z
    have ft := Few_one f1 (Few_of d g1 g2 hv)
    by_cases q : v = 99999
    · rw [if_pos q] at ft
      refine ⟨-1, L, ?_, FP.rf, fun J M hJ => ?_⟩
      · unfold FX11_path
        simp (disch := omega) only [rg_0_0, e, zlet, obind, zI_lit, zI_neg, zI_add, zI_sub, zI_mul, zI_div, zI_le, zI_lt, zI_eq, zI_cl, irem, ile_t, ile_f, ilt_t, ilt_f, ieq_t, ieq_f, and_true, true_and, and_false, false_and, and_self, not_true_eq_false, not_false_eq_true, ↓reduceIte, Int.toNat_natCast, tqb_z, tqb_t, tqb_f, r_isIn, decide_eq_false_iff_not, decide_eq_true_eq, oel_s, oel_n, Bool.false_eq_true, btf, eq_self, or_self, or_false, false_or, or_true, true_or, iand_f, iandl_f, ior_t, ior_f, e1, ft]
      · obtain ⟨J2, e2, P2⟩ := ref J M hJ
        rw [if_pos q] at e2
        exact ⟨J2, e2, P2⟩
    · rw [if_neg q] at ft
      obtain ⟨p, gp, ep⟩ : ∃ p, edg w h 1 p = true ∧ v = D p := by
        rcases g1 with r | r
        · exact absurd r q
        · exact r
      obtain ⟨M2, e2, F2⟩ := c_way H (by omega) d (by omega) ⟨p, gp, ep⟩ g2
      refine ⟨zI ((v % 100 : Nat) : Int), M2, ?_, F2.fp (by unfold psl; omega), fun J M hJ => ?_⟩
      · unfold FX11_path
        simp (disch := omega) only [rg_0_0, rg_0_9, e, zlet, obind, zI_lit, zI_neg, zI_add, zI_sub, zI_mul, zI_div, zI_le, zI_lt, zI_eq, zI_cl, irem, ile_t, ile_f, ilt_t, ilt_f, ieq_t, ieq_f, and_true, true_and, and_false, false_and, and_self, not_true_eq_false, not_false_eq_true, ↓reduceIte, Int.toNat_natCast, tqb_z, tqb_t, tqb_f, r_isIn, decide_eq_false_iff_not, decide_eq_true_eq, oel_s, oel_n, Bool.false_eq_true, btf, eq_self, or_self, or_false, false_or, or_true, true_or, iand_f, iandl_f, ior_t, ior_f, e1, ft, e2]
      · obtain ⟨J2, e3, P2⟩ := ref J M hJ
        rw [if_neg q] at e3
        exact ⟨J2, e3, P2⟩
