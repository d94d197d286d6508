/-! QUERIES: steady, race. -/
def tot (M : Nat → Nat) : Nat := fb_sm (fun p => wor (M p)) 64
theorem tot_up (M : Nat → Nat) {p : Nat} (hp : p < 64) : tot (kup M p 0) + wor (M p) = tot M := by
  have := fb_sm_upd (fun q => wor (M q)) 0 (i := p) (n := 64) hp
  have e : (fun q => wor (kup M p 0 q)) = fun q => if q = p then 0 else wor (M q) := funext fun q => by
    unfold kup
    by_cases r : q = p <;> simp [r, wor]
  unfold tot
  rw [e]
  omega
theorem ct_up0 {K : Nat → Nat} {p : Nat} (hp : p < 64) (s : sol K p = true) : fb_ct (sol (kup K p 0)) 64 + 1 = fb_ct (sol K) 64 := by
  have := fb_ct_upd (sol K) false (i := p) (n := 64) hp
  rw [s, ← sol_up0] at this
  simpa using this
/-- less of a hill, and all stands -/
def lss (w h : Nat) (K M : Nat → Nat) : Prop := (∀ p, M p = K p ∨ M p = 0) ∧ Stn h M
theorem lss_sb {w h : Nat} {K M : Nat → Nat} (l : lss w h K M) : sb K M := fun p => by
  rcases l.1 p with e | e
  · exact Or.inl e
  · exact Or.inr (Or.inl e)
theorem lss_z {w h : Nat} {K M : Nat → Nat} (l : lss w h K M) (z : ∀ p, ar w h p = false → K p = 0) : ∀ p, ar w h p = false → M p = 0 := fun p hp => by
  rcases l.1 p with e | e
  · rw [e]; exact z p hp
  · exact e
theorem lss_up {w h : Nat} {K M : Nat → Nat} (k : wh w h) (l : lss w h K M) (z : ∀ p, ar w h p = false → K p = 0) {s p : Nat} (q : saf w h M s p = true) : lss w h K (kup M p 0) ∧ sto M p = true ∧ sol M p = true ∧ p < 48 := by
  have zM := lss_z l z
  have ap := saf_ar zM q
  have q2 := q
  simp only [saf, cut, Bool.and_eq_true, decide_eq_true_eq] at q
  have sp : sol M p = true := by
    have := q.1.1
    simp only [sto, decide_eq_true_eq] at this
    simp only [sol, decide_eq_true_eq]
    omega
  refine ⟨⟨fun r => ?_, (los_0 (fun r t => ar_lt k.2.2.2 (sol_ar zM t))).1 q.2⟩, q.1.1, sp, ar_lt k.2.2.2 ap⟩
  unfold kup
  split
  · exact Or.inr rfl
  · exact l.1 r
theorem lss_sol {w h : Nat} {K M : Nat → Nat} (l : lss w h K M) (p : Nat) (q : sol M p = true) : sol K p = true := by
  rcases l.1 p with e | e
  · simpa [sol, e] using q
  · simp [sol, e] at q
theorem lss_wor {w h : Nat} {K M : Nat → Nat} (l : lss w h K M) : ws wor K (fun p => sol K p && !sol M p) + tot M = tot K := by
  unfold ws tot
  rw [← fb_sm_add]
  refine fb_sm_cong fun p _ => ?_
  unfold sol
  rcases l.1 p with e | e
  · by_cases q : K p = 0 <;> simp [e, q]
  · by_cases q : K p = 0
    · simp [e, q]
    · simp [e, q, wor]
noncomputable def stp (w h s : Nat) (M : Nat → Nat) : Nat → Nat := match sel (fun _ => 0) (saf w h M s) with
  | none => M
  | some p => kup M p 0
theorem stp_some {w h s p : Nat} {M : Nat → Nat} (b : BS (fun _ => 0) (saf w h M s) p) : stp w h s M = kup M p 0 := by unfold stp; rw [sel_some b]
theorem stp_none {w h s : Nat} {M : Nat → Nat} (b : ∀ p, saf w h M s p = false) : stp w h s M = M := by unfold stp; rw [sel_none b]
theorem stp_end {w h s i j : Nat} {K : Nat → Nat} (hi : ∀ p, saf w h (qz_it (stp w h s) i K) s p = false) (hj : ∀ p, saf w h (qz_it (stp w h s) j K) s p = false) : qz_it (stp w h s) i K = qz_it (stp w h s) j K := by
  have e1 := it_from (g := stp w h s) (x := K) (i := i) (stp_none hi)
  have e2 := it_from (g := stp w h s) (x := K) (i := j) (stp_none hj)
  rcases Nat.le_total i j with r | r
  · have := e1 (j - i)
    rw [show i + (j - i) = j by omega] at this
    exact this.symm
  · have := e2 (i - j)
    rw [show j + (i - j) = i by omega] at this
    exact this
theorem HC.fi {I J : tq_PI} {L : tq_PL} {a b w h : Nat} {K : Nat → Nat} (H : HC I L a w h K) (F : FC b I J) (q : a ≠ b) : HC J L a w h K := by
  unfold HC
  rw [F a q]
  exact H
section ST
variable {w h : Nat} {K : Nat → Nat}
theorem c_steady {I : tq_PI} {L : tq_PL} {a s : Nat} (H : HC I L a w h K) (S : Stn h K) (hs : s < 2) : ∃ (y : Int64) (j : Nat), FX3_steadyCuts I L a (zI (s : Int)) = some y ∧ lss w h K (qz_it (stp w h s) j K) ∧ (∀ p, saf w h (qz_it (stp w h s) j K) s p = false) ∧ bb y = fun p => sol K p && !sol (qz_it (stp w h s) j K) p := by
  have k := H.k
  obtain ⟨v, e, j, hv, hl, ht⟩ := it_for (f := fun p : Int64 × Int32 => FX3_steadyCuts_s8 I L a (zI (s : Int)) p.1 p.2) (fun i (y : Int64) => (y, zI (i : Int))) 48 (fun i y => bb y = sol (qz_it (stp w h s) i K) ∧ lss w h K (qz_it (stp w h s) i K) ∧ fb_ct (sol (qz_it (stp w h s) i K)) 64 + i ≤ 48) (Post := fun y => ∃ j, bb y = sol (qz_it (stp w h s) j K) ∧ lss w h K (qz_it (stp w h s) j K) ∧ ∀ p, saf w h (qz_it (stp w h s) j K) s p = false) (fun i y hi hy => by
    obtain ⟨h1, h2, h3⟩ := hy
    obtain ⟨x, ex, hx⟩ := c_safe H hs h1 (lss_sb h2) (lss_z h2 H.z) h2.2
    unfold FX3_steadyCuts_s8
    simp (disch := omega) only [zlet, obind, zI_lit, zI_neg, zI_add, zI_sub, zI_mul, zI_div, zI_le, zI_lt, zI_eq, zI_cl, irem, ile_t, ile_f, ilt_t, ilt_f, ieq_t, ieq_f, and_true, true_and, and_false, false_and, and_self, not_true_eq_false, not_false_eq_true, ↓reduceIte, Int.toNat_natCast, tqb_z, tqb_t, tqb_f, ex, lgz]
    by_cases q : x = 0
    · rw [q, c_low0, if_pos rfl]
      refine Or.inr ⟨_, rfl, i, h1, h2, fun p => ?_⟩
      rw [← hx, q, bb_0]
    · obtain ⟨m, _, m1, m2⟩ := bb_least q
      have lo := c_low (I := I) (L := L) m1 m2
      have nz : ¬ FX11_lowest I L x = 0 := fun z => by rw [z] at lo; have := congrFun lo m; rw [bb_0] at this; simp at this
      rw [if_neg nz]
      rw [hx] at m1 m2
      obtain ⟨u1, u2, u3, u4⟩ := lss_up k h2 H.z m1
      have eq : qz_it (stp w h s) (i + 1) K = kup (qz_it (stp w h s) i K) m 0 := by
        rw [qz_it_succ]
        exact stp_some ⟨m1, fun _ _ => Nat.le_refl _, fun r hr sr => by rw [m2 r hr] at sr; cases sr⟩
      refine Or.inl ⟨_, rfl, ?_, ?_, ?_⟩
      · rw [eq]; exact bb_wo h1 lo
      · rw [eq]; exact u1
      · rw [eq]
        have := ct_up0 (by omega) u3
        omega) (fun y hy => by
    obtain ⟨h1, h2, h3⟩ := hy
    unfold FX3_steadyCuts_s8
    simp (disch := omega) only [zlet, obind, zI_lit, zI_neg, zI_add, zI_sub, zI_mul, zI_div, zI_le, zI_lt, zI_eq, zI_cl, irem, ile_t, ile_f, ilt_t, ilt_f, ieq_t, ieq_f, and_true, true_and, and_false, false_and, and_self, not_true_eq_false, not_false_eq_true, ↓reduceIte, Int.toNat_natCast, tqb_z, tqb_t, tqb_f]
    refine ⟨_, rfl, 48, h1, h2, fun p => ?_⟩
    have z : fb_ct (sol (qz_it (stp w h s) 48 K)) 64 = 0 := by omega
    rw [fb_ct_zero] at z
    cases sp : saf w h (qz_it (stp w h s) 48 K) s p
    · rfl
    · obtain ⟨u1, u2, u3, u4⟩ := lss_up k h2 H.z sp
      rw [z p (by omega)] at u3
      cases u3) 0 (FX3_solid I L a) (by omega) (by omega) ⟨c_sol H, ⟨fun p => Or.inl rfl, S⟩, by
      show fb_ct (sol K) 64 + 0 ≤ 48
      have := ct_48 (U := sol K) (fun p q => H.s48 H.z q)
      omega⟩
  refine ⟨FX3_solid I L a &&& (v ^^^ (-1)), j, ?_, hl, ht, ?_⟩
  · unfold FX3_steadyCuts
    rw [zlet]
    exact (congrArg (fun o => Option.bind o _) e).trans (obind _ _)
  · funext p
    rw [bb_minus, c_sol H, hv]
theorem r_steady {J : tq_PI} {s : Nat} (hs : s < 2) (R : RW J w h) (G : GR J w h 0 K) (S : Stn h K) (M : tq_PL) (u : Int32) : ∃ (c0 : Int32) (J0 J2 : tq_PI) (n t j : Nat), FX12_safest J M 136 (zI (s : Int)) (zI 0) = some (c0, J0) ∧ tq_it (fun p : Int32 × Int32 × Int32 × tq_PI => FX12_steady_s35 p.2.2.2 M 136 (zI (s : Int)) u p.1 p.2.1 p.2.2.1) tq_N (zI ((0 : Nat) : Int), zI ((0 : Nat) : Int), c0, J0) = some (zI (n : Int), zI (t : Int), J2) ∧ FP J J2 ∧ (∀ p, saf w h (qz_it (stp w h s) j K) s p = false) ∧ n + fb_ct (sol (qz_it (stp w h s) j K)) 64 = fb_ct (sol K) 64 ∧ t + tot (qz_it (stp w h s) j K) = tot K := by
  have k := R.2.2
  have h48 := wh_le k
  have gc : ∀ Q : Nat → Nat, (fun q => if (false : Bool) = true then wor (Q q) else 0) = fun _ => 0 := fun Q => funext fun q => by simp
  obtain ⟨c0, J0, e0, F0, hc0⟩ := r_safest hs R G M false
  have tk : tot K ≤ 256 := by
    unfold tot
    have := fb_sm_le (f := fun p => wor (K p)) (g := fun _ => 4) (n := 64) (fun p _ => wor_le _)
    rw [fb_sm_const] at this
    omega
  have ck := fb_ct_le (sol K) 64
  obtain ⟨⟨v1, v2, v3⟩, e, n, t, j, hv1, hv2, P, ht, hn, htt⟩ := it_m (f := fun p : Int32 × Int32 × Int32 × tq_PI => FX12_steady_s35 p.2.2.2 M 136 (zI (s : Int)) u p.1 p.2.1 p.2.2.1) (Inv := fun m x => ∃ (n t j : Nat) (c : Int32) (J1 : tq_PI), x = (zI (n : Int), zI (t : Int), c, J1) ∧ FP J J1 ∧ RW J1 w h ∧ GR J1 w h 0 (qz_it (stp w h s) j K) ∧ lss w h K (qz_it (stp w h s) j K) ∧ n + fb_ct (sol (qz_it (stp w h s) j K)) 64 = fb_ct (sol K) 64 ∧ t + tot (qz_it (stp w h s) j K) = tot K ∧ ((c = zI (-1) ∧ ∀ p, saf w h (qz_it (stp w h s) j K) s p = false) ∨ ∃ p, c = zI (cl w p : Nat) ∧ BS (fun _ => 0) (saf w h (qz_it (stp w h s) j K) s) p ∧ ar w h p = true) ∧ m = fb_ct (sol (qz_it (stp w h s) j K)) 64) (Post := fun x => ∃ (n t j : Nat), x.1 = zI (n : Int) ∧ x.2.1 = zI (t : Int) ∧ FP J x.2.2 ∧ (∀ p, saf w h (qz_it (stp w h s) j K) s p = false) ∧ n + fb_ct (sol (qz_it (stp w h s) j K)) 64 = fb_ct (sol K) 64 ∧ t + tot (qz_it (stp w h s) j K) = tot K) (fun m x hx => by
    obtain ⟨n, t, j, c, J1, rfl, P1, R1, G1, l1, h1, h2, h3, h4⟩ := hx
    unfold FX12_steady_s35
    rcases h3 with ⟨h3, h5⟩ | ⟨p, h3, h5, h6⟩
    · refine Or.inr ⟨(zI (n : Int), zI (t : Int), J1), ?_, n, t, j, rfl, rfl, P1, h5, h1, h2⟩
      simp only [h3]
      rw [if_pos (by rfl)]
    · have hc := cl_lt k h6
      obtain ⟨u1, u2, u3, u4⟩ := lss_up k l1 G.2.2 h5.1
      have eq : qz_it (stp w h s) (j + 1) K = kup (qz_it (stp w h s) j K) p 0 := by
        rw [qz_it_succ]
        exact stp_some h5
      have G2 := G1.up k hc (v := 0) (by omega)
      rw [pl_cl k h6, ← eq] at G2
      have F2 : FG 0 J1 (tq_up2 J1 140 (48 * 0 + cl w p) (zI ((0 : Nat) : Int))) := FG.up (by omega)
      rw [show 48 * 0 + cl w p = cl w p by omega] at G2 F2
      obtain ⟨c2, J3, e3, F3, hc3⟩ := r_safest hs (R1.fg F2) G2 M false
      have e3' : FX12_safest (tq_up2 J1 140 (cl w p) (zI 0)) M 136 (zI (s : Int)) (zI 0) = some (c2, J3) := e3
      have kd := r_kind0 k G1 M (z := (cl w p : Nat)) (by omega)
      rw [Int.toNat_natCast, pl_cl k h6] at kd
      have n1 : ¬ zI (cl w p : Nat) = zI (-1) := by rw [zI_eq (by omega) (by omega)]; omega
      have wl := wor_le (qz_it (stp w h s) j K p)
      have tu := tot_up (qz_it (stp w h s) j K) (p := p) (by omega)
      have cu := ct_up0 (K := qz_it (stp w h s) j K) (p := p) (by omega) u3
      subst h3
      simp (disch := omega) only [zlet, obind, zI_lit, zI_neg, zI_add, zI_sub, zI_mul, zI_div, zI_le, zI_lt, zI_eq, zI_cl, irem, ile_t, ile_f, ilt_t, ilt_f, ieq_t, ieq_f, and_true, true_and, and_false, false_and, and_self, not_true_eq_false, not_false_eq_true, ↓reduceIte, Int.toNat_natCast, tqb_z, tqb_t, tqb_f, kd, r_worth _ _ (G1.2.1 _), g15, e3']
      rw [gc] at hc3
      refine Or.inl ⟨(zI ((n : Int) + 1), zI ((t : Int) + (wor (qz_it (stp w h s) j K p) : Int)), c2, J3), fb_ct (sol (qz_it (stp w h s) (j + 1) K)) 64, rfl, by rw [eq]; omega, n + 1, t + wor (qz_it (stp w h s) j K p), j + 1, c2, J3, rfl, (P1.tr F2.fp).tr F3.fp, (R1.fg F2).r2 F3, G2.r2 k F3, by rw [eq]; exact u1, by rw [eq]; omega, by rw [eq]; omega, hc3, rfl⟩) tq_N _ (zI ((0 : Nat) : Int), zI ((0 : Nat) : Int), c0, J0) (by rw [tq_N_eq]; have := fb_ct_le (sol (qz_it (stp w h s) 0 K)) 64; omega) ⟨0, 0, 0, c0, J0, rfl, F0.fp, R.r2 F0, G.r2 k F0, ⟨fun p => Or.inl rfl, S⟩, Nat.zero_add _, Nat.zero_add _, by rw [gc] at hc0; exact hc0, rfl⟩
  dsimp only at hv1 hv2 P
  subst hv1 hv2
  exact ⟨c0, J0, v3, n, t, j, e0, e, P, ht, hn, htt⟩
end ST
theorem q_steady {I : tq_PI} {L : tq_PL} (V : HV I L 1 0) (x y : Int32) (f : Bool) : ∃ v, FX11_steady I L 0 x y (zB f) = some v ∧ ∀ J M, J 137 = I 137 → ∃ J2, FX12_steady J M 136 x y (zB f) = some (v, J2) ∧ FP J J2 := by
  rcases hill_case V x with ⟨e, r⟩ | ⟨i, w, h, K, hi, rfl, e, H, S, r⟩
  · exact ⟨-1, by unfold FX11_steady; rw [rg_0_0, e, obind]; rfl, fun J M hJ => ⟨J, by unfold FX12_steady; rw [r J M hJ, obind]; rfl, FP.rf⟩⟩
  · obtain ⟨z, hz, rfl⟩ := zI_of y
    by_cases sd : z = 0 ∨ z = 1
    · obtain ⟨s, rfl⟩ : ∃ s : Nat, z = s := ⟨z.toNat, by omega⟩
      have hs : s < 2 := by omega
      obtain ⟨y, j, ey, hl, ht, hy⟩ := c_steady H S hs
      have w1 := lss_wor hl
      have n1 := ct_minus (P := sol K) (Q := sol (qz_it (stp w h s) j K)) (fun p q => lss_sol hl p q) 64
      have ref : ∀ J M, J 137 = I 137 → ∃ J2, FP J J2 ∧ FX12_steady J M 136 (zI (i : Int)) (zI (s : Int)) (zB f) = (if f = false then some (zI (fb_ct (fun p => sol K p && !sol (qz_it (stp w h s) j K) p) 64 : Nat), J2) else some (zI (ws wor K (fun p => sol K p && !sol (qz_it (stp w h s) j K) p) : Nat), J2)) := fun J M hJ => by
        obtain ⟨J1, J2, h1, h2, R1, R2, G2, P1, P2, -⟩ := r J M hJ
        obtain ⟨c0, J0, J3, n, t, j2, e0, e3, P3, ht2, hn, htt⟩ := r_steady hs R2 G2 S M (zB f)
        rw [stp_end ht2 ht] at hn htt
        refine ⟨J3, P2.tr P3, ?_⟩
        unfold FX12_steady
        simp (disch := omega) only [h1, h2, r_isSide, e0, zlet, obind, zI_lit, zI_neg, zI_add, zI_sub, zI_mul, zI_div, zI_le, zI_lt, zI_eq, zI_cl, irem, ile_t, ile_f, ilt_t, ilt_f, ieq_t, ieq_f, and_true, true_and, and_false, false_and, and_self, not_true_eq_false, not_false_eq_true, ↓reduceIte, Int.toNat_natCast, tqb_z, tqb_t, tqb_f, r_isIn, decide_eq_false_iff_not, decide_eq_true_eq, oel_s, oel_n, Bool.false_eq_true, btf, eq_self, or_self, or_false, false_or, or_true, true_or, iand_f, iandl_f, ior_t, ior_f]
        refine (congrArg (fun o => Option.bind o _) e3).trans ((obind _ _).trans ?_)
        dsimp only
        rw [show n = fb_ct (fun p => sol K p && !sol (qz_it (stp w h s) j K) p) 64 by omega, show t = ws wor K (fun p => sol K p && !sol (qz_it (stp w h s) j K) p) by omega]
        simp only [zB_0]
      unfold FX11_steady
      simp (disch := omega) only [rg_0_0, e, c_isSide, zlet, obind, zI_lit, zI_neg, zI_add, zI_sub, zI_mul, zI_div, zI_le, zI_lt, zI_eq, zI_cl, irem, ile_t, ile_f, ilt_t, ilt_f, ieq_t, ieq_f, and_true, true_and, and_false, false_and, and_self, not_true_eq_false, not_false_eq_true, ↓reduceIte, Int.toNat_natCast, tqb_z, tqb_t, tqb_f, r_isIn, decide_eq_false_iff_not, decide_eq_true_eq, oel_s, oel_n, Bool.false_eq_true, btf, eq_self, or_self, or_false, false_or, or_true, true_or, iand_f, iandl_f, ior_t, ior_f, ey, zB_0, bc_eq, c_worth H, hy]
      cases f
      · refine ⟨_, by rw [if_pos rfl], fun J M hJ => ?_⟩
        obtain ⟨J2, P2, e5⟩ := ref J M hJ
        exact ⟨J2, by rw [e5, if_pos rfl], P2⟩
      · refine ⟨_, by rw [if_neg (by simp)], fun J M hJ => ?_⟩
        obtain ⟨J2, P2, e5⟩ := ref J M hJ
        exact ⟨J2, by rw [e5, if_neg (by simp)], P2⟩
    · refine ⟨-1, ?_, fun J M hJ => ?_⟩
      · unfold FX11_steady FX11_steady_j22
        simp (disch := omega) only [rg_0_0, e, c_isSide, zlet, obind, zI_lit, zI_neg, zI_add, zI_sub, zI_mul, zI_div, zI_le, zI_lt, zI_eq, zI_cl, irem, ile_t, ile_f, ilt_t, ilt_f, ieq_t, ieq_f, and_true, true_and, and_false, false_and, and_self, not_true_eq_false, not_false_eq_true, ↓reduceIte, Int.toNat_natCast, tqb_z, tqb_t, tqb_f, r_isIn, decide_eq_false_iff_not, decide_eq_true_eq, oel_s, oel_n, Bool.false_eq_true, btf, eq_self, or_self, or_false, false_or, or_true, true_or, iand_f, iandl_f, ior_t, ior_f]
      · obtain ⟨J1, J2, h1, h2, R1, R2, G2, P1, P2, -⟩ := r J M hJ
        refine ⟨J1, ?_, P1⟩
        unfold FX12_steady FX12_steady_j15
        simp (disch := omega) only [h1, r_isSide, zlet, obind, zI_lit, zI_neg, zI_add, zI_sub, zI_mul, zI_div, zI_le, zI_lt, zI_eq, zI_cl, irem, ile_t, ile_f, ilt_t, ilt_f, ieq_t, ieq_f, and_true, true_and, and_false, false_and, and_self, not_true_eq_false, not_false_eq_true, ↓reduceIte, Int.toNat_natCast, tqb_z, tqb_t, tqb_f, r_isIn, decide_eq_false_iff_not, decide_eq_true_eq, oel_s, oel_n, Bool.false_eq_true, btf, eq_self, or_self, or_false, false_or, or_true, true_or, iand_f, iandl_f, ior_t, ior_f]
