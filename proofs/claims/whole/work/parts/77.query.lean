/-! QUERIES: race. -/
theorem rg_0_5 : tq_rg 0 5 = 45 := by decide +kernel
theorem g20 : tq_rg 136 20 = 144 := by decide +kernel
theorem g21 : tq_rg 136 21 = 145 := by decide +kernel
noncomputable def rcs (w h : Nat) (k : Nat) (x : (Nat → Nat) × Nat × Nat) : (Nat → Nat) × Nat × Nat := match sel (fun q => wor (x.1 q)) (saf w h x.1 (k % 2)) with
  | none => x
  | some p => (kup x.1 p 0, if k % 2 = 0 then x.2.1 + wor (x.1 p) else x.2.1, if k % 2 = 0 then x.2.2 else x.2.2 + wor (x.1 p))
noncomputable def rcn (w h : Nat) (K : Nat → Nat) : Nat → (Nat → Nat) × Nat × Nat
  | 0 => (K, 0, 0)
  | k + 1 => rcs w h k (rcn w h K k)
theorem rcn_s (w h : Nat) (K : Nat → Nat) (k : Nat) : rcn w h K (k + 1) = rcs w h k (rcn w h K k) := rfl
theorem rcs_some {w h k p : Nat} {x : (Nat → Nat) × Nat × Nat} (b : BS (fun q => wor (x.1 q)) (saf w h x.1 (k % 2)) p) : rcs w h k x = (kup x.1 p 0, if k % 2 = 0 then x.2.1 + wor (x.1 p) else x.2.1, if k % 2 = 0 then x.2.2 else x.2.2 + wor (x.1 p)) := by unfold rcs; rw [sel_some b]
theorem rcs_none {w h k : Nat} {x : (Nat → Nat) × Nat × Nat} (b : ∀ p, saf w h x.1 (k % 2) p = false) : rcs w h k x = x := by unfold rcs; rw [sel_none b]
section RC
variable {w h : Nat} {K : Nat → Nat}
theorem saf_sto {M : Nat → Nat} {s p : Nat} (q : saf w h M s p = true) : sto M p = true := by
  simp only [saf, cut, Bool.and_eq_true] at q
  exact q.1.1
theorem lss_eq {M : Nat → Nat} (l : lss w h K M) {p : Nat} (q : sto M p = true) : M p = K p := by
  rcases l.1 p with e | e
  · exact e
  · simp [sto, e] at q
theorem c_race {I : tq_PI} {L : tq_PL} {a n : Nat} (H : HC I L a w h K) (S : Stn h K) (ha : a ≠ 45) (hn : n ≤ 40) : ∃ (I2 : tq_PI) (L2 : tq_PL), FX5_run I L 45 a (zI (n : Int)) = some (I2, L2) ∧ FC 45 I I2 ∧ FL 45 L L2 ∧ bb (L2 45 8) = sol (rcn w h K n).1 ∧ I2 45 6 = zI ((rcn w h K n).2.1 : Nat) ∧ I2 45 7 = zI ((rcn w h K n).2.2 : Nat) ∧ lss w h K (rcn w h K n).1 := by
  have k := H.k
  obtain ⟨I0, hI0⟩ : ∃ I0, I0 = tq_up2 (tq_up2 I 45 6 (zI 0)) 45 7 (zI 0) := ⟨_, rfl⟩
  have C0 : FC 45 I I0 := by rw [hI0]; exact FC.up.tr FC.up
  have H0 := H.fi C0 ha
  obtain ⟨⟨I2, L2⟩, e, C2, F2, b1, b2, b3, b4⟩ := it_for (f := fun p : Int32 × tq_PI × tq_PL => FX5_run_s20 p.2.1 p.2.2 45 a (zI (n : Int)) p.1) (fun i (x : tq_PI × tq_PL) => (zI (i : Int), x.1, x.2)) n (fun i x => FC 45 I x.1 ∧ FL 45 L x.2 ∧ bb (x.2 45 8) = sol (rcn w h K i).1 ∧ x.1 45 6 = zI ((rcn w h K i).2.1 : Nat) ∧ x.1 45 7 = zI ((rcn w h K i).2.2 : Nat) ∧ lss w h K (rcn w h K i).1 ∧ (rcn w h K i).2.1 ≤ 4 * i ∧ (rcn w h K i).2.2 ≤ 4 * i) (Post := fun x => FC 45 I x.1 ∧ FL 45 L x.2 ∧ bb (x.2 45 8) = sol (rcn w h K n).1 ∧ x.1 45 6 = zI ((rcn w h K n).2.1 : Nat) ∧ x.1 45 7 = zI ((rcn w h K n).2.2 : Nat) ∧ lss w h K (rcn w h K n).1) (fun i x hi hx => by
    obtain ⟨I1, L1⟩ := x
    obtain ⟨C, F, h1, h2, h3, h4, h5, h6⟩ := hx
    dsimp only at C F h1 h2 h3 ⊢
    have H1 := (H.fi C ha).fl F ha
    obtain ⟨s, hs, es⟩ : ∃ s : Nat, s < 2 ∧ i % 2 = s := ⟨i % 2, by omega, rfl⟩
    have e3 : ((i : Int) % 2) = (s : Int) := by omega
    obtain ⟨x, ex, hx⟩ := c_safe H1 hs h1 (lss_sb h4) (lss_z h4 H.z) h4.2
    have hP : ∀ p, saf w h (rcn w h K i).1 s p = true → sto K p = true := fun p q => by
      have := saf_sto q
      rw [sb_sto (lss_sb h4)] at this
      simp only [Bool.and_eq_true] at this
      exact this.1
    rw [rcn_s]
    unfold FX5_run_s20 FX5_run_j84L20
    simp (disch := omega) only [zlet, obind, zI_lit, zI_neg, zI_add, zI_sub, zI_mul, zI_div, zI_le, zI_lt, zI_eq, zI_cl, irem, ile_t, ile_f, ilt_t, ilt_f, ieq_t, ieq_f, and_true, true_and, and_false, false_and, and_self, not_true_eq_false, not_false_eq_true, ↓reduceIte, Int.toNat_natCast, tqb_z, tqb_t, tqb_f, e3, ex, c_worth H1]
    rcases c_dear H1 hx hP with ⟨d1, d2⟩ | ⟨p, p48, d1, d2⟩
    · have en : rcs w h i (rcn w h K i) = rcn w h K i := rcs_none (by rw [es]; exact d2)
      have w0 : ws wor K (bb (FX3_dearest I1 L1 a x)) = 0 := by
        rw [d1, show bb (0 : Int64) = fun _ => false from funext fun q => bb_0 q, ws_0]
      rw [en]
      have l8 : bb (L1 45 8 &&& (FX3_dearest I1 L1 a x ^^^ (-1))) = sol (rcn w h K i).1 := funext fun q => by rw [bb_minus, d1, bb_0, h1]; simp
      simp only [w0]
      by_cases q0 : s = 0
      · rw [if_pos (by omega)]
        refine Or.inl ⟨(tq_up2 I1 45 6 (I1 45 6 + zI ((0 : Nat) : Int)), tq_up2 L1 45 8 (L1 45 8 &&& (FX3_dearest I1 L1 a x ^^^ (-1)))), rfl, C.tr FC.up, F.tr FL.up, ?_, ?_, ?_, h4, by omega, by omega⟩
        · dsimp only; rw [up_s]; exact l8
        · dsimp only; rw [up_s, h2, zI_add]; congr 1
        · dsimp only; rw [up_n _ _ (by omega)]; exact h3
      · rw [if_neg (by omega)]
        refine Or.inl ⟨(tq_up2 I1 45 7 (I1 45 7 + zI ((0 : Nat) : Int)), tq_up2 L1 45 8 (L1 45 8 &&& (FX3_dearest I1 L1 a x ^^^ (-1)))), rfl, C.tr FC.up, F.tr FL.up, ?_, ?_, ?_, h4, by omega, by omega⟩
        · dsimp only; rw [up_s]; exact l8
        · dsimp only; rw [up_n _ _ (by omega)]; exact h2
        · dsimp only; rw [up_s, h3, zI_add]; congr 1
    · have sp := d2.1
      have mk : (rcn w h K i).1 p = K p := lss_eq h4 (saf_sto sp)
      have bs : BS (fun q => wor ((rcn w h K i).1 q)) (saf w h (rcn w h K i).1 (i % 2)) p := by
        rw [es]
        refine ⟨sp, fun q hq => ?_, fun q hq sq => ?_⟩
        · dsimp only
          rw [lss_eq h4 (saf_sto hq), mk]
          exact d2.2.1 q hq
        · dsimp only
          rw [lss_eq h4 (saf_sto sq), mk]
          exact d2.2.2 q hq sq
      have en := rcs_some bs
      obtain ⟨u1, u2, u3, u4⟩ := lss_up k h4 H.z sp
      have wv : ws wor K (bb (FX3_dearest I1 L1 a x)) = wor ((rcn w h K i).1 p) := by rw [d1, ws_one _ _ (by omega), mk]
      have wl := wor_le ((rcn w h K i).1 p)
      have l8 := bb_wo h1 d1
      rw [en]
      simp only [wv]
      by_cases q0 : s = 0
      · have i0 : i % 2 = 0 := by omega
        simp only [if_pos i0]
        rw [if_pos (by omega)]
        refine Or.inl ⟨(tq_up2 I1 45 6 (I1 45 6 + zI (wor ((rcn w h K i).1 p) : Nat)), tq_up2 L1 45 8 (L1 45 8 &&& (FX3_dearest I1 L1 a x ^^^ (-1)))), rfl, C.tr FC.up, F.tr FL.up, ?_, ?_, ?_, u1, by omega, by omega⟩
        · dsimp only; rw [up_s]; exact l8
        · dsimp only; rw [up_s, h2, zI_add]; rfl
        · dsimp only; rw [up_n _ _ (by omega)]; exact h3
      · have i0 : ¬ i % 2 = 0 := by omega
        simp only [if_neg i0]
        rw [if_neg (by omega)]
        refine Or.inl ⟨(tq_up2 I1 45 7 (I1 45 7 + zI (wor ((rcn w h K i).1 p) : Nat)), tq_up2 L1 45 8 (L1 45 8 &&& (FX3_dearest I1 L1 a x ^^^ (-1)))), rfl, C.tr FC.up, F.tr FL.up, ?_, ?_, ?_, u1, by omega, by omega⟩
        · dsimp only; rw [up_s]; exact l8
        · dsimp only; rw [up_n _ _ (by omega)]; exact h2
        · dsimp only; rw [up_s, h3, zI_add]; rfl) (fun x hx => by
    obtain ⟨C, F, h1, h2, h3, h4, h5, h6⟩ := hx
    unfold FX5_run_s20
    simp (disch := omega) only [zlet, obind, zI_lit, zI_neg, zI_add, zI_sub, zI_mul, zI_div, zI_le, zI_lt, zI_eq, zI_cl, irem, ile_t, ile_f, ilt_t, ilt_f, ieq_t, ieq_f, and_true, true_and, and_false, false_and, and_self, not_true_eq_false, not_false_eq_true, ↓reduceIte, Int.toNat_natCast, tqb_z, tqb_t, tqb_f]
    exact ⟨_, rfl, C, F, h1, h2, h3, h4⟩) 0 (I0, tq_up2 L 45 8 (FX3_solid I0 L a)) (by omega) (by omega) ⟨C0, FL.up, by
      dsimp only; rw [up_s]; exact c_sol H0, by
      dsimp only; rw [hI0, up_n _ _ (by omega), up_s]; rfl, by
      dsimp only; rw [hI0, up_s]; rfl, ⟨fun p => Or.inl rfl, S⟩, Nat.zero_le _, Nat.zero_le _⟩
  dsimp only at C2 F2 b1 b2 b3
  refine ⟨I2, L2, ?_, C2, F2, b1, b2, b3, b4⟩
  unfold FX5_run
  simp only [zI_lit, zlet]
  rw [← hI0]
  exact (congrArg (fun o => Option.bind o _) e).trans (obind _ _)
/-- begins: the ground as told, all counts 0 -/
theorem r_begins {J1 J2 : tq_PI} {M : tq_PL} (e : FX12_asTold J1 M 136 = some J2) (R2 : RW J2 w h) (G2 : GR J2 w h 0 K) : ∃ J3, FX12_begins J1 M 136 = some J3 ∧ RW J3 w h ∧ GR J3 w h 0 K ∧ FP J2 J3 ∧ (∀ s, s < 2 → J3 144 s = zI 0 ∧ J3 145 s = zI 0) ∧ J3 136 22 = zI 0 ∧ J3 136 23 = zI 0 ∧ J3 136 24 = zI 0 ∧ (∀ j, (j < 22 ∨ 24 < j) → J3 136 j = J2 136 j) := by
  obtain ⟨J3, e3, F3, h3⟩ := it_for (f := fun p : Int32 × tq_PI => FX12_begins_s6 p.2 M 136 p.1) (fun i (J : tq_PI) => (zI (i : Int), J)) 2 (fun i J => (∀ a, a ≠ 144 → a ≠ 145 → J a = J2 a) ∧ ∀ s, s < i → J 144 s = zI 0 ∧ J 145 s = zI 0) (Post := fun J => (∀ a, a ≠ 144 → a ≠ 145 → J a = J2 a) ∧ ∀ s, s < 2 → J 144 s = zI 0 ∧ J 145 s = zI 0) (fun i J hi hJ => by
    unfold FX12_begins_s6
    simp (disch := omega) only [zlet, obind, zI_lit, zI_neg, zI_add, zI_sub, zI_mul, zI_div, zI_le, zI_lt, zI_eq, zI_cl, irem, ile_t, ile_f, ilt_t, ilt_f, ieq_t, ieq_f, and_true, true_and, and_false, false_and, and_self, not_true_eq_false, not_false_eq_true, ↓reduceIte, Int.toNat_natCast, tqb_z, tqb_t, tqb_f, g20, g21]
    refine Or.inl ⟨_, rfl, fun a h1 h2 => ?_, fun s hs => ?_⟩
    · rw [tq_up2_ne h2, tq_up2_ne h1]; exact hJ.1 a h1 h2
    · by_cases q : s = i
      · rw [q, up_s, up_n _ _ (by omega), up_s]
        exact ⟨rfl, rfl⟩
      · rw [up_n _ _ (by omega), up_n _ _ (by omega), up_n _ _ (by omega), up_n _ _ (by omega)]
        exact hJ.2 s (by omega)) (fun J hJ => by
    unfold FX12_begins_s6
    simp (disch := omega) only [zlet, obind, zI_lit, zI_neg, zI_add, zI_sub, zI_mul, zI_div, zI_le, zI_lt, zI_eq, zI_cl, irem, ile_t, ile_f, ilt_t, ilt_f, ieq_t, ieq_f, and_true, true_and, and_false, false_and, and_self, not_true_eq_false, not_false_eq_true, ↓reduceIte, Int.toNat_natCast, tqb_z, tqb_t, tqb_f]
    exact ⟨_, rfl, hJ⟩) 0 J2 (by omega) (by omega) ⟨fun _ _ _ => rfl, fun s hs => absurd hs (Nat.not_lt_zero s)⟩
  have F4 : FC 136 J3 (tq_up2 (tq_up2 (tq_up2 J3 136 22 (zI 0)) 136 23 (zI 0)) 136 24 (zI 0)) := (FC.up.tr FC.up).tr FC.up
  refine ⟨tq_up2 (tq_up2 (tq_up2 J3 136 22 (zI 0)) 136 23 (zI 0)) 136 24 (zI 0), ?_, ?_, ?_, ?_, fun s hs => ?_, ?_, ?_, ?_, fun j hj => ?_⟩
  · unfold FX12_begins
    rw [e, obind]
    simp only [zI_lit]
    exact (congrArg (fun o => Option.bind o _) e3).trans (obind _ _)
  · refine ⟨?_, ?_, R2.2.2⟩
    · rw [up_n _ _ (by omega), up_n _ _ (by omega), up_n _ _ (by omega), F3 136 (by omega) (by omega)]; exact R2.1
    · rw [up_n _ _ (by omega), up_n _ _ (by omega), up_n _ _ (by omega), F3 136 (by omega) (by omega)]; exact R2.2.1
  · unfold GR
    rw [F4 140 (by omega), F3 140 (by omega) (by omega)]
    exact G2
  · intro a p
    have : a ≠ 136 ∧ a ≠ 144 ∧ a ≠ 145 := by unfold psl at p; omega
    rw [F4 a this.1, F3 a this.2.1 this.2.2]
  · rw [F4 144 (by omega), F4 145 (by omega)]
    exact h3 s hs
  · rw [up_n _ _ (by omega), up_n _ _ (by omega), up_s]
  · rw [up_n _ _ (by omega), up_s]
  · rw [up_s]
  · rw [up_n _ _ (by omega), up_n _ _ (by omega), up_n _ _ (by omega), F3 136 (by omega) (by omega)]
theorem r_race {J : tq_PI} {n : Nat} (R : RW J w h) (G : GR J w h 0 K) (S : Stn h K) (hz : ∀ s, s < 2 → J 144 s = zI 0) (M : tq_PL) (hn : n ≤ 40) (u : Int32) : ∃ J2, tq_it (fun p : Int32 × tq_PI => FX12_race_s37 p.2 M 136 (zI (n : Int)) u p.1) tq_N (zI ((0 : Nat) : Int), J) = some J2 ∧ FP J J2 ∧ RW J2 w h ∧ GR J2 w h 0 (rcn w h K n).1 ∧ J2 144 0 = zI ((rcn w h K n).2.1 : Nat) ∧ J2 144 1 = zI ((rcn w h K n).2.2 : Nat) := by
  have k := R.2.2
  have h48 := wh_le k
  obtain ⟨J2, e, P2, R2, G2, b2, b3⟩ := it_for (f := fun p : Int32 × tq_PI => FX12_race_s37 p.2 M 136 (zI (n : Int)) u p.1) (fun i (x : tq_PI) => (zI (i : Int), x)) n (fun i x => FP J x ∧ RW x w h ∧ GR x w h 0 (rcn w h K i).1 ∧ x 144 0 = zI ((rcn w h K i).2.1 : Nat) ∧ x 144 1 = zI ((rcn w h K i).2.2 : Nat) ∧ lss w h K (rcn w h K i).1 ∧ (rcn w h K i).2.1 ≤ 4 * i ∧ (rcn w h K i).2.2 ≤ 4 * i) (Post := fun x => FP J x ∧ RW x w h ∧ GR x w h 0 (rcn w h K n).1 ∧ x 144 0 = zI ((rcn w h K n).2.1 : Nat) ∧ x 144 1 = zI ((rcn w h K n).2.2 : Nat)) (fun i J1 hi hx => by
    obtain ⟨P1, R1, G1, h2, h3, h4, h5, h6⟩ := hx
    obtain ⟨s, hs, es⟩ : ∃ s : Nat, s < 2 ∧ i % 2 = s := ⟨i % 2, by omega, rfl⟩
    have e3 : ((i : Int) % 2) = (s : Int) := by omega
    obtain ⟨c, J3, ec, F3, hc⟩ := r_safest hs R1 G1 M true
    have ec' : FX12_safest J1 M 136 (zI (s : Int)) (zI 1) = some (c, J3) := ec
    have gc : (fun q => if (true : Bool) = true then wor ((rcn w h K i).1 q) else 0) = fun q => wor ((rcn w h K i).1 q) := funext fun q => by simp
    rw [gc] at hc
    have R3 := R1.r2 F3
    have G3 := G1.r2 k F3
    have w0 : J3 144 0 = zI ((rcn w h K i).2.1 : Nat) := by rw [F3 144 0 (by omega)]; exact h2
    have w1 : J3 144 1 = zI ((rcn w h K i).2.2 : Nat) := by rw [F3 144 1 (by omega)]; exact h3
    rw [rcn_s]
    unfold FX12_race_s37 FX12_race_j93L37
    simp (disch := omega) only [zlet, obind, zI_lit, zI_neg, zI_add, zI_sub, zI_mul, zI_div, zI_le, zI_lt, zI_eq, zI_cl, irem, ile_t, ile_f, ilt_t, ilt_f, ieq_t, ieq_f, and_true, true_and, and_false, false_and, and_self, not_true_eq_false, not_false_eq_true, ↓reduceIte, Int.toNat_natCast, tqb_z, tqb_t, tqb_f, e3, ec']
    rcases hc with ⟨c1, c2⟩ | ⟨p, c1, c2, c3⟩
    · rw [rcs_none (by rw [es]; exact c2), if_pos c1]
      exact Or.inl ⟨J3, rfl, P1.tr F3.fp, R3, G3, w0, w1, h4, by omega, by omega⟩
    · rw [← es] at c2
      rw [rcs_some c2]
      rw [es] at c2
      have hcl := cl_lt k c3
      obtain ⟨u1, u2, u3, u4⟩ := lss_up k h4 G.2.2 c2.1
      have wl := wor_le ((rcn w h K i).1 p)
      have kd := r_kind0 k G3 M (z := (cl w p : Nat)) (by omega)
      rw [Int.toNat_natCast, pl_cl k c3] at kd
      have n1 : ¬ zI (cl w p : Nat) = zI (-1) := by rw [zI_eq (by omega) (by omega)]; omega
      subst c1
      rw [if_neg n1]
      simp (disch := omega) only [zlet, obind, zI_lit, zI_neg, zI_add, zI_sub, zI_mul, zI_div, zI_le, zI_lt, zI_eq, zI_cl, irem, ile_t, ile_f, ilt_t, ilt_f, ieq_t, ieq_f, and_true, true_and, and_false, false_and, and_self, not_true_eq_false, not_false_eq_true, ↓reduceIte, Int.toNat_natCast, tqb_z, tqb_t, tqb_f, kd, r_worth _ _ (G3.2.1 _), g20, g15]
      have G4 : ∀ v, GR (tq_up2 (tq_up2 J3 144 s v) 140 (cl w p) (zI 0)) w h 0 (kup (rcn w h K i).1 p 0) := fun v => by
        have := (G3.fc (FC.up (b := 144) (j := s) (x := v)) (by omega)).up k hcl (v := 0) (by omega)
        rw [pl_cl k c3, show 48 * 0 + cl w p = cl w p by omega] at this
        exact this
      have R4 : ∀ v, RW (tq_up2 (tq_up2 J3 144 s v) 140 (cl w p) (zI 0)) w h := fun v => (R3.fc (FC.up (b := 144) (j := s) (x := v)) (by omega)).fc (FC.up (b := 140)) (by omega)
      have P4 : ∀ v, FP J (tq_up2 (tq_up2 J3 144 s v) 140 (cl w p) (zI 0)) := fun v => ((P1.tr F3.fp).tr ((FC.up (b := 144) (j := s) (x := v)).fp (by unfold psl; omega))).tr ((FC.up (b := 140)).fp (by unfold psl; omega))
      rcases (by omega : s = 0 ∨ s = 1) with rfl | rfl
      · simp only [if_pos es]
        refine Or.inl ⟨_, rfl, P4 _, R4 _, G4 _, ?_, ?_, u1, by omega, by omega⟩
        · rw [up_n _ _ (by omega), up_s, w0, zI_add]; rfl
        · rw [up_n _ _ (by omega), up_n _ _ (by omega)]; exact w1
      · have i0 : ¬ i % 2 = 0 := by omega
        simp only [if_neg i0]
        refine Or.inl ⟨_, rfl, P4 _, R4 _, G4 _, ?_, ?_, u1, by omega, by omega⟩
        · rw [up_n _ _ (by omega), up_n _ _ (by omega)]; exact w0
        · rw [up_n _ _ (by omega), up_s, w1, zI_add]; rfl) (fun x hx => by
    obtain ⟨P1, R1, G1, h2, h3, h4, h5, h6⟩ := hx
    unfold FX12_race_s37
    simp (disch := omega) only [zlet, obind, zI_lit, zI_neg, zI_add, zI_sub, zI_mul, zI_div, zI_le, zI_lt, zI_eq, zI_cl, irem, ile_t, ile_f, ilt_t, ilt_f, ieq_t, ieq_f, and_true, true_and, and_false, false_and, and_self, not_true_eq_false, not_false_eq_true, ↓reduceIte, Int.toNat_natCast, tqb_z, tqb_t, tqb_f]
    exact ⟨_, rfl, P1, R1, G1, h2, h3⟩) 0 J (by omega) (by omega) ⟨FP.rf, R, G, hz 0 (by omega), hz 1 (by omega), ⟨fun p => Or.inl rfl, S⟩, Nat.zero_le _, Nat.zero_le _⟩
  exact ⟨J2, e, P2, R2, G2, b2, b3⟩
end RC
theorem q_race {I : tq_PI} {L : tq_PL} (V : HV I L 1 0) (x y u : Int32) : ∃ v I2 L2, FX11_race I L 0 x y u = some (v, I2, L2) ∧ FP I I2 ∧ FP L L2 ∧ ∀ J M, J 137 = I 137 → ∃ J2, FX12_race J M 136 x y u = some (v, J2) ∧ FP J J2 := by
  rcases hill_case V x with ⟨e, r⟩ | ⟨i, w, h, K, hi, rfl, e, H, S, r⟩
  · exact ⟨-2, I, L, by unfold FX11_race; rw [rg_0_0, e, obind]; rfl, FP.rf, FP.rf, fun J M hJ => ⟨J, by unfold FX12_race; rw [r J M hJ, obind]; rfl, FP.rf⟩⟩
  · obtain ⟨z, hz, rfl⟩ := zI_of y
    obtain ⟨t, ht, rfl⟩ := zI_of u
    by_cases q : (0 ≤ z ∧ z ≤ 40) ∧ (0 ≤ t ∧ t ≤ 2)
    · obtain ⟨n, rfl⟩ : ∃ n : Nat, z = n := ⟨z.toNat, by omega⟩
      obtain ⟨I2, L2, e2, C2, F2, b1, b2, b3, b4⟩ := c_race H S (by omega) (n := n) (by omega)
      have H2 := (H.fi C2 (by omega)).fl F2 (by omega)
      obtain ⟨f, ef, hf⟩ := c_thick H2 b1 (lss_sb b4) (lss_z b4 H.z)
      have pI : FP I I2 := C2.fp (by unfold psl; omega)
      have pL : FP L L2 := F2.fp (by unfold psl; omega)
      have ref : ∀ J M, J 137 = I 137 → ∃ J3, FP J J3 ∧ RW J3 w h ∧ GR J3 w h 0 (rcn w h K n).1 ∧ J3 144 0 = zI ((rcn w h K n).2.1 : Nat) ∧ J3 144 1 = zI ((rcn w h K n).2.2 : Nat) ∧ FX12_race J M 136 (zI (i : Int)) (zI (n : Int)) (zI t) = (if zI t = zI 2 then ((FX12_thickOf J3 M 136 (zI 0)).bind fun p21 => some (p21.1, p21.2)) else some (J3 144 t.toNat, J3)) := fun J M hJ => by
        obtain ⟨J1, J2, h1, h2, R1, R2, G2, P1, P2, -⟩ := r J M hJ
        obtain ⟨J4, e4, R4, G4, P4, z4, -⟩ := r_begins h2 R2 G2
        obtain ⟨J3, e3, P3, R3, G3, c1, c2⟩ := r_race R4 G4 S (fun s hs => (z4 s hs).1) M (n := n) (by omega) (zI t)
        refine ⟨J3, (P2.tr P4).tr P3, R3, G3, c1, c2, ?_⟩
        unfold FX12_race
        simp (disch := omega) only [h1, e4, zlet, obind, zI_lit, zI_neg, zI_add, zI_sub, zI_mul, zI_div, zI_le, zI_lt, zI_eq, zI_cl, irem, ile_t, ile_f, ilt_t, ilt_f, ieq_t, ieq_f, and_true, true_and, and_false, false_and, and_self, not_true_eq_false, not_false_eq_true, ↓reduceIte, Int.toNat_natCast, tqb_z, tqb_t, tqb_f, r_isIn, decide_eq_false_iff_not, decide_eq_true_eq, oel_s, oel_n, Bool.false_eq_true, btf, eq_self, or_self, or_false, false_or, or_true, true_or, iand_f, iandl_f, ior_t, ior_f]
        refine (congrArg (fun o => Option.bind o _) e3).trans ((obind _ _).trans ?_)
        by_cases t2 : t = 2
        · simp (disch := omega) only [zlet, obind, zI_lit, zI_neg, zI_add, zI_sub, zI_mul, zI_div, zI_le, zI_lt, zI_eq, zI_cl, irem, ile_t, ile_f, ilt_t, ilt_f, ieq_t, ieq_f, and_true, true_and, and_false, false_and, and_self, not_true_eq_false, not_false_eq_true, ↓reduceIte, Int.toNat_natCast, tqb_z, tqb_t, tqb_f, r_isIn, decide_eq_false_iff_not, decide_eq_true_eq, oel_s, oel_n, Bool.false_eq_true, btf, eq_self, or_self, or_false, false_or, or_true, true_or, iand_f, iandl_f, ior_t, ior_f, if_pos t2]
        · simp (disch := omega) only [zlet, obind, zI_lit, zI_neg, zI_add, zI_sub, zI_mul, zI_div, zI_le, zI_lt, zI_eq, zI_cl, irem, ile_t, ile_f, ilt_t, ilt_f, ieq_t, ieq_f, and_true, true_and, and_false, false_and, and_self, not_true_eq_false, not_false_eq_true, ↓reduceIte, Int.toNat_natCast, tqb_z, tqb_t, tqb_f, r_isIn, decide_eq_false_iff_not, decide_eq_true_eq, oel_s, oel_n, Bool.false_eq_true, btf, eq_self, or_self, or_false, false_or, or_true, true_or, iand_f, iandl_f, ior_t, ior_f, if_neg t2, g20]
      rcases (by omega : t = 0 ∨ t = 1 ∨ t = 2) with rfl | rfl | rfl
      · refine ⟨zI ((rcn w h K n).2.1 : Nat), I2, L2, ?_, pI, pL, fun J M hJ => ?_⟩
        · unfold FX11_race
          simp (disch := omega) only [rg_0_0, rg_0_5, e, zlet, obind, zI_lit, zI_neg, zI_add, zI_sub, zI_mul, zI_div, zI_le, zI_lt, zI_eq, zI_cl, irem, ile_t, ile_f, ilt_t, ilt_f, ieq_t, ieq_f, and_true, true_and, and_false, false_and, and_self, not_true_eq_false, not_false_eq_true, ↓reduceIte, Int.toNat_natCast, tqb_z, tqb_t, tqb_f, r_isIn, decide_eq_false_iff_not, decide_eq_true_eq, oel_s, oel_n, Bool.false_eq_true, btf, eq_self, or_self, or_false, false_or, or_true, true_or, iand_f, iandl_f, ior_t, ior_f, e2, b2]
        · obtain ⟨J3, P3, R3, G3, c1, c2, e3⟩ := ref J M hJ
          refine ⟨J3, ?_, P3⟩
          rw [e3, if_neg (by decide)]
          show some (J3 144 0, J3) = _
          rw [c1]
      · refine ⟨zI ((rcn w h K n).2.2 : Nat), I2, L2, ?_, pI, pL, fun J M hJ => ?_⟩
        · unfold FX11_race
          simp (disch := omega) only [rg_0_0, rg_0_5, e, zlet, obind, zI_lit, zI_neg, zI_add, zI_sub, zI_mul, zI_div, zI_le, zI_lt, zI_eq, zI_cl, irem, ile_t, ile_f, ilt_t, ilt_f, ieq_t, ieq_f, and_true, true_and, and_false, false_and, and_self, not_true_eq_false, not_false_eq_true, ↓reduceIte, Int.toNat_natCast, tqb_z, tqb_t, tqb_f, r_isIn, decide_eq_false_iff_not, decide_eq_true_eq, oel_s, oel_n, Bool.false_eq_true, btf, eq_self, or_self, or_false, false_or, or_true, true_or, iand_f, iandl_f, ior_t, ior_f, e2, b3]
        · obtain ⟨J3, P3, R3, G3, c1, c2, e3⟩ := ref J M hJ
          refine ⟨J3, ?_, P3⟩
          rw [e3, if_neg (by decide)]
          show some (J3 144 1, J3) = _
          rw [c2]
      · refine ⟨zI f, I2, L2, ?_, pI, pL, fun J M hJ => ?_⟩
        · unfold FX11_race
          simp (disch := omega) only [rg_0_0, rg_0_5, e, zlet, obind, zI_lit, zI_neg, zI_add, zI_sub, zI_mul, zI_div, zI_le, zI_lt, zI_eq, zI_cl, irem, ile_t, ile_f, ilt_t, ilt_f, ieq_t, ieq_f, and_true, true_and, and_false, false_and, and_self, not_true_eq_false, not_false_eq_true, ↓reduceIte, Int.toNat_natCast, tqb_z, tqb_t, tqb_f, r_isIn, decide_eq_false_iff_not, decide_eq_true_eq, oel_s, oel_n, Bool.false_eq_true, btf, eq_self, or_self, or_false, false_or, or_true, true_or, iand_f, iandl_f, ior_t, ior_f, e2, ef]
        · obtain ⟨J3, P3, R3, G3, c1, c2, e3⟩ := ref J M hJ
          obtain ⟨J4, f2, e4, F4, hf2⟩ := r_thick R3 G3 (by omega) M
          have e4' : FX12_thickOf J3 M 136 (zI 0) = some (zI f2, J4) := e4
          refine ⟨J4, ?_, P3.tr (F4.fp (by unfold psl; omega))⟩
          rw [e3, if_pos rfl, e4', obind, Few_one hf hf2]
    · refine ⟨-2, I, L, ?_, FP.rf, FP.rf, fun J M hJ => ?_⟩
      · unfold FX11_race FX11_race_j34
        by_cases q1 : z < 0
        · simp (disch := omega) only [rg_0_0, e, zlet, obind, zI_lit, zI_neg, zI_add, zI_sub, zI_mul, zI_div, zI_le, zI_lt, zI_eq, zI_cl, irem, ile_t, ile_f, ilt_t, ilt_f, ieq_t, ieq_f, and_true, true_and, and_false, false_and, and_self, not_true_eq_false, not_false_eq_true, ↓reduceIte, Int.toNat_natCast, tqb_z, tqb_t, tqb_f, r_isIn, decide_eq_false_iff_not, decide_eq_true_eq, oel_s, oel_n, Bool.false_eq_true, btf, eq_self, or_self, or_false, false_or, or_true, true_or, iand_f, iandl_f, ior_t, ior_f]
        · by_cases q2 : 40 < z
          · simp (disch := omega) only [rg_0_0, e, zlet, obind, zI_lit, zI_neg, zI_add, zI_sub, zI_mul, zI_div, zI_le, zI_lt, zI_eq, zI_cl, irem, ile_t, ile_f, ilt_t, ilt_f, ieq_t, ieq_f, and_true, true_and, and_false, false_and, and_self, not_true_eq_false, not_false_eq_true, ↓reduceIte, Int.toNat_natCast, tqb_z, tqb_t, tqb_f, r_isIn, decide_eq_false_iff_not, decide_eq_true_eq, oel_s, oel_n, Bool.false_eq_true, btf, eq_self, or_self, or_false, false_or, or_true, true_or, iand_f, iandl_f, ior_t, ior_f]
          · by_cases q3 : t < 0
            · simp (disch := omega) only [rg_0_0, e, zlet, obind, zI_lit, zI_neg, zI_add, zI_sub, zI_mul, zI_div, zI_le, zI_lt, zI_eq, zI_cl, irem, ile_t, ile_f, ilt_t, ilt_f, ieq_t, ieq_f, and_true, true_and, and_false, false_and, and_self, not_true_eq_false, not_false_eq_true, ↓reduceIte, Int.toNat_natCast, tqb_z, tqb_t, tqb_f, r_isIn, decide_eq_false_iff_not, decide_eq_true_eq, oel_s, oel_n, Bool.false_eq_true, btf, eq_self, or_self, or_false, false_or, or_true, true_or, iand_f, iandl_f, ior_t, ior_f]
            · simp (disch := omega) only [rg_0_0, e, zlet, obind, zI_lit, zI_neg, zI_add, zI_sub, zI_mul, zI_div, zI_le, zI_lt, zI_eq, zI_cl, irem, ile_t, ile_f, ilt_t, ilt_f, ieq_t, ieq_f, and_true, true_and, and_false, false_and, and_self, not_true_eq_false, not_false_eq_true, ↓reduceIte, Int.toNat_natCast, tqb_z, tqb_t, tqb_f, r_isIn, decide_eq_false_iff_not, decide_eq_true_eq, oel_s, oel_n, Bool.false_eq_true, btf, eq_self, or_self, or_false, false_or, or_true, true_or, iand_f, iandl_f, ior_t, ior_f]
      · obtain ⟨J1, J2, h1, h2, R1, R2, G2, P1, P2, -⟩ := r J M hJ
        refine ⟨J1, ?_, P1⟩
        unfold FX12_race FX12_race_j27
        by_cases q1 : 0 ≤ z ∧ z ≤ 40
        · simp (disch := omega) only [h1, zlet, obind, zI_lit, zI_neg, zI_add, zI_sub, zI_mul, zI_div, zI_le, zI_lt, zI_eq, zI_cl, irem, ile_t, ile_f, ilt_t, ilt_f, ieq_t, ieq_f, and_true, true_and, and_false, false_and, and_self, not_true_eq_false, not_false_eq_true, ↓reduceIte, Int.toNat_natCast, tqb_z, tqb_t, tqb_f, r_isIn, decide_eq_false_iff_not, decide_eq_true_eq, oel_s, oel_n, Bool.false_eq_true, btf, eq_self, or_self, or_false, false_or, or_true, true_or, iand_f, iandl_f, ior_t, ior_f]
        · simp (disch := omega) only [h1, zlet, obind, zI_lit, zI_neg, zI_add, zI_sub, zI_mul, zI_div, zI_le, zI_lt, zI_eq, zI_cl, irem, ile_t, ile_f, ilt_t, ilt_f, ieq_t, ieq_f, and_true, true_and, and_false, false_and, and_self, not_true_eq_false, not_false_eq_true, ↓reduceIte, Int.toNat_natCast, tqb_z, tqb_t, tqb_f, r_isIn, decide_eq_false_iff_not, decide_eq_true_eq, oel_s, oel_n, Bool.false_eq_true, btf, eq_self, or_self, or_false, false_or, or_true, true_or, iand_f, iandl_f, ior_t, ior_f]
