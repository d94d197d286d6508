/-! DRAWN by a seed. -/
noncomputable def rl8 : Int32 → Int32 := Classical.choose (⟨fun s => s * 1103515245 + 12345, fun _ => rfl⟩ : ∃ f : Int32 → Int32, ∀ s, s * 1103515245 + 12345 = f s)
theorem rl8_eq (s : Int32) : s * 1103515245 + 12345 = rl8 s := Classical.choose_spec (⟨fun s => s * 1103515245 + 12345, fun _ => rfl⟩ : ∃ f : Int32 → Int32, ∀ s, s * 1103515245 + 12345 = f s) s
def lot (s : Int32) : Int32 := (Int32.toUInt32 s >>> (Int32.toUInt32 (16 : Int32) &&& Int32.toUInt32 31)).toInt32
def u16 (s : Int32) : Nat := (Int32.toUInt32 s >>> (Int32.toUInt32 (16 : Int32) &&& Int32.toUInt32 31)).toNat
theorem lot_eq (s : Int32) : lot s = zI (u16 s : Nat) := by
  unfold lot u16
  generalize Int32.toUInt32 s >>> (Int32.toUInt32 (16 : Int32) &&& Int32.toUInt32 31) = y
  apply Int32.toBitVec_inj.1
  apply BitVec.eq_of_toNat_eq
  show y.toBitVec.toNat = (BitVec.ofInt 32 (y.toNat : Int)).toNat
  rw [BitVec.toNat_ofInt]
  have : y.toBitVec.toNat = y.toNat := rfl
  have h := y.toBitVec.isLt
  omega
theorem u16_lt (s : Int32) : u16 s < 65536 := by
  unfold u16
  rw [UInt32.toNat_shiftRight]
  have e : (Int32.toUInt32 (16 : Int32) &&& Int32.toUInt32 31).toNat % 32 = 16 := by decide +kernel
  rw [e, Nat.shiftRight_eq_div_pow]
  have h : (Int32.toUInt32 s).toNat < 4294967296 := (Int32.toUInt32 s).toBitVec.isLt
  omega
theorem c_below {I : tq_PI} {L : tq_PL} {n : Nat} (hn : 1 ≤ n ∧ n ≤ 100) : FX8_below I L 43 (zI (n : Int)) = some (zI ((u16 (rl8 (I 43 10)) % n : Nat) : Int), tq_up2 I 43 10 (rl8 (I 43 10))) := by
  have hl := lot_eq (rl8 (I 43 10))
  have hu := u16_lt (rl8 (I 43 10))
  unfold lot at hl
  unfold FX8_below
  have e : I 43 10 * (1103515245 : Int32) + (12345 : Int32) = rl8 (I 43 10) := rl8_eq _
  rw [e, up_s, hl]
  simp (disch := omega) only [zlet, obind, zI_lit, zI_neg, zI_add, zI_sub, zI_mul, zI_div, zI_le, zI_lt, zI_eq, zI_cl, irem, ile_t, ile_f, ilt_t, ilt_f, ieq_t, ieq_f, and_true, true_and, and_false, false_and, and_self, not_true_eq_false, not_false_eq_true, ↓reduceIte, Int.toNat_natCast, tqb_z, tqb_t, tqb_f]
  rfl
theorem r_below {J : tq_PI} {M : tq_PL} {n : Nat} (hn : 1 ≤ n ∧ n ≤ 100) : FX12_below J M 136 (zI (n : Int)) = some (zI ((u16 (rl8 (J 136 38)) % n : Nat) : Int), tq_up2 J 136 38 (rl8 (J 136 38))) := by
  have hl := lot_eq (rl8 (J 136 38))
  have hu := u16_lt (rl8 (J 136 38))
  unfold lot at hl
  unfold FX12_below
  have e : J 136 38 * (1103515245 : Int32) + (12345 : Int32) = rl8 (J 136 38) := rl8_eq _
  rw [e, up_s, hl]
  simp (disch := omega) only [zlet, obind, zI_lit, zI_neg, zI_add, zI_sub, zI_mul, zI_div, zI_le, zI_lt, zI_eq, zI_cl, irem, ile_t, ile_f, ilt_t, ilt_f, ieq_t, ieq_f, and_true, true_and, and_false, false_and, and_self, not_true_eq_false, not_false_eq_true, ↓reduceIte, Int.toNat_natCast, tqb_z, tqb_t, tqb_f]
  rfl
def dkd (d : Nat) : Nat := if d = 7 then 3 else if d = 6 then 2 else if d < 3 then 0 else 1
noncomputable def dlt (w h : Nat) (q : Int32 × Yst) : Int32 × Yst := (rl8 (rl8 q.1), (done1 w h (dkd (u16 (rl8 q.1) % 8)) (pl w (u16 (rl8 (rl8 q.1)) % (if u16 (rl8 q.1) % 8 = 7 then 10 else w * h))) ((u16 (rl8 (rl8 q.1)) % (if u16 (rl8 q.1) % 8 = 7 then 10 else w * h) : Nat) : Int) q.2).getD q.2)
section DR
variable {w h : Nat} {K : Nat → Nat}
theorem SC.seed {I : tq_PI} {L : tq_PL} {x : Yst} (C : SC I L w h x) (v : Int32) : SC (tq_up2 I 43 10 v) L w h x := ⟨C.1.fi FC.up (by omega), fun j hj => by rw [up_n _ _ (by omega)]; exact C.2 j hj⟩
theorem c_lot {I : tq_PI} {L : tq_PL} {x : Yst} (C : SC I L w h x) {d : Nat} (hd : d < 8) : ∃ J M, FX8_actByLot I L 43 (zI (d : Int)) = some (J, M) ∧ FC 43 I J ∧ FK 44 L M ∧ J 43 10 = rl8 (I 43 10) ∧ SC J M w h ((done1 w h (dkd d) (pl w (u16 (rl8 (I 43 10)) % (if d = 7 then 10 else w * h))) ((u16 (rl8 (I 43 10)) % (if d = 7 then 10 else w * h) : Nat) : Int) x).getD x) := by
  have k := C.1.k
  have h48 := wh_le k
  have h4 := wh_ge k
  have hu := u16_lt (rl8 (I 43 10))
  have C1 := C.seed (rl8 (I 43 10))
  by_cases d7 : d = 7
  · subst d7
    simp only [if_true]
    have v10 : u16 (rl8 (I 43 10)) % 10 < 10 := Nat.mod_lt _ (by omega)
    have bl := c_below (I := I) (L := L) (n := 10) (by omega)
    have bl' : FX8_below I L 43 (zI 10) = some (zI ((u16 (rl8 (I 43 10)) % 10 : Nat) : Int), tq_up2 I 43 10 (rl8 (I 43 10))) := bl
    generalize u16 (rl8 (I 43 10)) % 10 = v at *
    obtain ⟨r, er, fr⟩ := c_thick C1.1 (c_sol C1.1) (sb_rf _) C1.1.z
    have hth := thk_eq fr
    have hb := c_heard C1.1 fr (n := (v : Int)) (by omega)
    have h6 : I 43 6 = zI (x.2 5 : Nat) := C.2 5 (by omega)
    have dn : done1 w h (dkd 7) (pl w v) (v : Int) x = some (dkn w h x (v : Int)) := rfl
    rw [dn]
    have fin : ∀ b : Nat, b = (if thk w h x.1 ≠ -1 ∧ thk w h x.1 ≤ (v : Int) then 1 else 0) → ∃ J M, some (tq_up2 (tq_up2 I 43 10 (rl8 (I 43 10))) 43 6 (zI (x.2 5 + (b : Int))), L) = some (J, M) ∧ FC 43 I J ∧ FK 44 L M ∧ J 43 10 = rl8 (I 43 10) ∧ SC J M w h ((some (dkn w h x (v : Int))).getD x) := fun b hb2 => by
      refine ⟨_, L, rfl, FC.up.tr FC.up, FK.rf, by rw [up_n _ _ (by omega), up_s], ⟨C1.1.fi FC.up (by omega), fun j hj => ?_⟩⟩
      show tq_up2 (tq_up2 I 43 10 (rl8 (I 43 10))) 43 6 _ 43 (1 + j) = zI ((dkn w h x (v : Int)).2 j : Nat)
      unfold dkn vup
      dsimp only
      rw [← hb2]
      by_cases j5 : j = 5
      · subst j5
        rw [up_s, if_pos rfl]; rfl
      · rw [up_n _ _ (by omega), if_neg j5]
        exact C1.2 j hj
    unfold FX8_actByLot FX8_actByLot_j32
    simp (disch := omega) only [zlet, obind, zI_lit, zI_neg, zI_add, zI_sub, zI_mul, zI_div, zI_le, zI_lt, zI_eq, zI_cl, irem, ile_t, ile_f, ilt_t, ilt_f, ieq_t, ieq_f, and_true, true_and, and_false, false_and, and_self, not_true_eq_false, not_false_eq_true, ↓reduceIte, Int.toNat_natCast, tqb_z, tqb_t, tqb_f, bl', rg_43_0, hb, h6]
    by_cases q : r ≠ -1 ∧ r ≤ (v : Int)
    · rw [if_neg (by simp [q])]
      exact fin 1 (by rw [hth, if_pos q])
    · rw [if_pos (by simp [q])]
      exact fin 0 (by rw [hth, if_neg q])
  · simp only [if_neg d7]
    have vn : u16 (rl8 (I 43 10)) % (w * h) < w * h := Nat.mod_lt _ (by omega)
    have bl := c_below (I := I) (L := L) (n := w * h) (by omega)
    have cc : FX3_cellCount I L 44 = zI ((w * h : Nat) : Int) := by
      unfold FX3_cellCount
      rw [C.1.1, C.1.2.1, zI_mul]; rfl
    generalize u16 (rl8 (I 43 10)) % (w * h) = v at *
    obtain ⟨y, ey, hy⟩ := c_bitOf_t C1.1 (c := v) vn
    unfold FX8_actByLot FX8_actByLot_j82
    simp (disch := omega) only [zlet, obind, zI_lit, zI_neg, zI_add, zI_sub, zI_mul, zI_div, zI_le, zI_lt, zI_eq, zI_cl, irem, ile_t, ile_f, ilt_t, ilt_f, ieq_t, ieq_f, and_true, true_and, and_false, false_and, and_self, not_true_eq_false, not_false_eq_true, ↓reduceIte, Int.toNat_natCast, tqb_z, tqb_t, tqb_f, rg_43_0, cc, bl, ey]
    unfold done1 dkd
    by_cases d6 : d = 6
    · rw [if_pos (by omega)]
      simp only [d6, show ¬ (6 : Nat) = 7 by omega, if_false, if_true, show ¬ (2 : Nat) = 3 by omega]
      cases qa : air w h x.1 (pl w v)
      · rw [c_prop_f C1 (fun p hp => by rw [hy] at hp; simp only [decide_eq_true_eq] at hp; rw [hp]; exact qa)]
        exact ⟨tq_up2 I 43 10 (rl8 (I 43 10)), L, rfl, FC.up, FK.rf, up_s _ _ _ _, C1⟩
      · obtain ⟨M, e, F, C2⟩ := c_prop_t C1 hy qa
        rw [e]
        exact ⟨tq_up2 I 43 10 (rl8 (I 43 10)), M, rfl, FC.up, F, up_s _ _ _ _, C2⟩
    · rw [if_neg (by omega)]
      simp only [if_neg d7, if_neg d6]
      have str : ∀ s : Nat, s < 2 → ∃ J M, ((FX8_strike (tq_up2 I 43 10 (rl8 (I 43 10))) L 43 (zI (s : Int)) y).bind fun p7 => some (p7.2.1, p7.2.2)) = some (J, M) ∧ FC 43 I J ∧ FK 44 L M ∧ J 43 10 = rl8 (I 43 10) ∧ SC J M w h ((if s = 3 then some (dkn w h x (v : Int)) else if s = 2 then (if air w h x.1 (pl w v) = true then some (dpr x (pl w v)) else none) else if cut w h x.1 s (pl w v) = true then some (dct h x s (pl w v)) else none).getD x) := fun s hs => by
        rw [if_neg (by omega), if_neg (by omega)]
        cases qc : cut w h x.1 s (pl w v)
        · rw [c_strike_f C1 hs (fun p hp => by rw [hy] at hp; simp only [decide_eq_true_eq] at hp; rw [hp]; exact qc), obind]
          exact ⟨tq_up2 I 43 10 (rl8 (I 43 10)), L, rfl, FC.up, FK.rf, up_s _ _ _ _, C1⟩
        · obtain ⟨J, M, e, F1, F2, C2, h7⟩ := c_strike_t C1 hs hy qc
          rw [e, obind]
          exact ⟨J, M, rfl, FC.up.tr F1, F2, by rw [h7 10 (by omega), up_s], C2⟩
      by_cases d3 : d < 3
      · rw [if_neg (by omega)]
        simp only [if_pos d3]
        exact str 0 (by omega)
      · rw [if_pos (by omega)]
        simp only [if_neg d3]
        exact str 1 (by omega)
theorem c_draw {I : tq_PI} {L : tq_PL} {a n : Nat} (H : HC I L a w h K) (q : a ≠ 44) (q2 : a ≠ 43) (sd : Int32) (hn : n ≤ 60) : ∃ J M, FX8_draw I L 43 a sd (zI (n : Int)) = some (J, M) ∧ FP I J ∧ FP L M ∧ SC J M w h (qz_it (dlt w h) n (sd, (K, z6))).2 := by
  obtain ⟨F0, G0, C0⟩ := c_open8 H q q2
  generalize hO : FX8_open I L 43 a = O at *
  obtain ⟨⟨J, M⟩, e, f1, f2, c1, -⟩ := it_for (f := fun p : Int32 × tq_PI × tq_PL => FX8_draw_s13 p.2.1 p.2.2 43 (zI (n : Int)) p.1) (fun k (s : tq_PI × tq_PL) => (zI (k : Int), s.1, s.2)) n (fun k s => F34 I s.1 ∧ FL 44 L s.2 ∧ SC s.1 s.2 w h (qz_it (dlt w h) k (sd, (K, z6))).2 ∧ s.1 43 10 = (qz_it (dlt w h) k (sd, (K, z6))).1) (Post := fun s => F34 I s.1 ∧ FL 44 L s.2 ∧ SC s.1 s.2 w h (qz_it (dlt w h) n (sd, (K, z6))).2 ∧ s.1 43 10 = (qz_it (dlt w h) n (sd, (K, z6))).1) (fun k s hk hs => by
    obtain ⟨I1, L1⟩ := s
    obtain ⟨s1, s2, s3, s4⟩ := hs
    dsimp only at s1 s2 s3 s4 ⊢
    have bl := c_below (I := I1) (L := L1) (n := 8) (by omega)
    have bl' : FX8_below I1 L1 43 (zI 8) = some (zI ((u16 (rl8 (I1 43 10)) % 8 : Nat) : Int), tq_up2 I1 43 10 (rl8 (I1 43 10))) := bl
    obtain ⟨J, M, e, g1, g2, g3, g4⟩ := c_lot (s3.seed (rl8 (I1 43 10))) (d := u16 (rl8 (I1 43 10)) % 8) (Nat.mod_lt _ (by omega))
    rw [up_s] at g3 g4
    unfold FX8_draw_s13
    simp (disch := omega) only [zlet, obind, zI_lit, zI_neg, zI_add, zI_sub, zI_mul, zI_div, zI_le, zI_lt, zI_eq, zI_cl, irem, ile_t, ile_f, ilt_t, ilt_f, ieq_t, ieq_f, and_true, true_and, and_false, false_and, and_self, not_true_eq_false, not_false_eq_true, ↓reduceIte, Int.toNat_natCast, tqb_z, tqb_t, tqb_f, bl', e]
    refine Or.inl ⟨(J, M), rfl, s1.tr (FC.up.tr g1).f34, s2.tr g2.fl, ?_, ?_⟩
    · dsimp only
      rw [qz_it_succ]
      unfold dlt
      rw [s4] at g4
      exact g4
    · dsimp only
      rw [qz_it_succ, g3, s4]
      rfl) (fun s hs => by
    unfold FX8_draw_s13
    simp (disch := omega) only [zlet, obind, zI_lit, zI_neg, zI_add, zI_sub, zI_mul, zI_div, zI_le, zI_lt, zI_eq, zI_cl, irem, ile_t, ile_f, ilt_t, ilt_f, ieq_t, ieq_f, and_true, true_and, and_false, false_and, and_self, not_true_eq_false, not_false_eq_true, ↓reduceIte, Int.toNat_natCast, tqb_z, tqb_t, tqb_f]
    exact ⟨_, rfl, hs⟩) 0 (tq_up2 O.1 43 10 sd, O.2) (by omega) (by omega) ⟨F0.tr (FC.up (b := 43)).f34, G0, C0.seed sd, by dsimp only; rw [up_s]; rfl⟩
  dsimp only at f1 f2 c1
  refine ⟨J, M, ?_, f1.fp, f2.fp (by unfold psl; omega), c1⟩
  unfold FX8_draw
  rw [zlet, hO]
  exact (congrArg (fun o => Option.bind o _) e).trans (obind _ _)
theorem SR.seed {J : tq_PI} {x : Yst} (S : SR J w h x) (v : Int32) : SR (tq_up2 J 136 38 v) w h x := by
  refine ⟨⟨?_, ?_, S.1.2.2⟩, ?_, fun s hs => ?_, ?_, ?_⟩
  · rw [up_n _ _ (by omega)]; exact S.1.1
  · rw [up_n _ _ (by omega)]; exact S.1.2.1
  · unfold GR; rw [tq_up2_ne (by omega)]; exact S.2.1
  · rw [tq_up2_ne (by omega), tq_up2_ne (by omega)]; exact S.2.2.1 s hs
  · rw [up_n _ _ (by omega)]; exact S.2.2.2.1
  · rw [up_n _ _ (by omega)]; exact S.2.2.2.2
theorem r_draws {J : tq_PI} {M : tq_PL} {x : Yst} (S : SR J w h x) : ∃ J2, FX12_draws J M 136 = some J2 ∧ FP J J2 ∧ J2 136 38 = (dlt w h (J 136 38, x)).1 ∧ SR J2 w h (dlt w h (J 136 38, x)).2 := by
  have k := S.1.2.2
  have h48 := wh_le k
  have h4 := wh_ge k
  have bl := r_below (J := J) (M := M) (n := 8) (by omega)
  have bl' : FX12_below J M 136 (zI 8) = some (zI ((u16 (rl8 (J 136 38)) % 8 : Nat) : Int), tq_up2 J 136 38 (rl8 (J 136 38))) := bl
  have d8 : u16 (rl8 (J 136 38)) % 8 < 8 := Nat.mod_lt _ (by omega)
  have S1 := S.seed (rl8 (J 136 38))
  have e38 : (tq_up2 J 136 38 (rl8 (J 136 38))) 136 38 = rl8 (J 136 38) := up_s _ _ _ _
  obtain ⟨N, hN, N1⟩ : ∃ N : Nat, N = (if u16 (rl8 (J 136 38)) % 8 = 7 then 10 else w * h) ∧ 1 ≤ N ∧ N ≤ 100 := ⟨_, rfl, by split <;> omega⟩
  have b2 := r_below (J := tq_up2 J 136 38 (rl8 (J 136 38))) (M := M) (n := N) N1
  rw [e38] at b2
  have S2 := S1.seed (rl8 (rl8 (J 136 38)))
  have vN : u16 (rl8 (rl8 (J 136 38))) % N < N := Nat.mod_lt _ (by omega)
  have go : ∀ d z : Int, d = (dkd (u16 (rl8 (J 136 38)) % 8) : Nat) → z = (u16 (rl8 (rl8 (J 136 38))) % N : Nat) → ∃ J2, FX12_draws_j50 (tq_up2 (tq_up2 J 136 38 (rl8 (J 136 38))) 136 38 (rl8 (rl8 (J 136 38)))) M (zI z) (zI d) 136 = some J2 ∧ FP J J2 ∧ J2 136 38 = (dlt w h (J 136 38, x)).1 ∧ SR J2 w h (dlt w h (J 136 38, x)).2 := fun d z hd hz => by
    subst hd hz
    obtain ⟨J3, e3, F3, S3⟩ := r_does (c := u16 (rl8 (rl8 (J 136 38))) % N) S2 M (d := dkd (u16 (rl8 (J 136 38)) % 8)) (by unfold dkd; split <;> first | omega | (split <;> first | omega | (split <;> omega))) (z := ((u16 (rl8 (rl8 (J 136 38))) % N : Nat) : Int)) (k := ((u16 (rl8 (rl8 (J 136 38))) % N : Nat) : Int)) (by
      by_cases q : u16 (rl8 (J 136 38)) % 8 = 7
      · exact Or.inl (by unfold dkd; rw [if_pos q])
      · rw [if_neg q] at hN
        exact Or.inr ⟨by omega, rfl⟩) (by omega)
    refine ⟨J3, ?_, ?_, ?_, ?_⟩
    · unfold FX12_draws_j50
      rw [e3, obind]
    · exact (((FC.up (b := 136)).fp (by unfold psl; omega)).tr ((FC.up (b := 136)).fp (by unfold psl; omega))).tr F3.fp
    · rw [F3.2 38 (by omega) (by omega), up_s]; rfl
    · unfold dlt
      dsimp only
      rw [← hN]
      exact S3
  have j23 : FX12_draws J M 136 = FX12_draws_j23 (tq_up2 J 136 38 (rl8 (J 136 38))) M 136 (zI ((u16 (rl8 (J 136 38)) % 8 : Nat) : Int)) (zI (N : Int)) 136 := by
    unfold FX12_draws
    simp (disch := omega) only [zlet, obind, zI_lit, zI_neg, zI_add, zI_sub, zI_mul, zI_div, zI_le, zI_lt, zI_eq, zI_cl, irem, ile_t, ile_f, ilt_t, ilt_f, ieq_t, ieq_f, and_true, true_and, and_false, false_and, and_self, not_true_eq_false, not_false_eq_true, ↓reduceIte, Int.toNat_natCast, tqb_z, tqb_t, tqb_f, bl', r_many S1.1]
    by_cases q : u16 (rl8 (J 136 38)) % 8 = 7
    · rw [if_pos (by omega), hN, if_pos q]; rfl
    · rw [if_neg (by omega), hN, if_neg q]
  rw [j23]
  unfold FX12_draws_j23
  simp (disch := omega) only [zlet, obind, zI_lit, zI_neg, zI_add, zI_sub, zI_mul, zI_div, zI_le, zI_lt, zI_eq, zI_cl, irem, ile_t, ile_f, ilt_t, ilt_f, ieq_t, ieq_f, and_true, true_and, and_false, false_and, and_self, not_true_eq_false, not_false_eq_true, ↓reduceIte, Int.toNat_natCast, tqb_z, tqb_t, tqb_f, b2]
  by_cases q3 : u16 (rl8 (J 136 38)) % 8 < 3
  · rw [if_neg (by omega)]
    exact go 0 _ (by unfold dkd; rw [if_neg (by omega), if_neg (by omega), if_pos q3]; rfl) rfl
  · rw [if_pos (by omega)]
    by_cases q6 : u16 (rl8 (J 136 38)) % 8 < 6
    · rw [if_neg (by omega)]
      exact go 1 _ (by unfold dkd; rw [if_neg (by omega), if_neg (by omega), if_neg q3]; rfl) rfl
    · rw [if_pos (by omega)]
      refine go _ _ ?_ rfl
      unfold dkd
      by_cases q7 : u16 (rl8 (J 136 38)) % 8 = 7
      · rw [if_pos q7]; omega
      · rw [if_neg q7, if_pos (by omega)]; omega
end DR
theorem q_drawn {I : tq_PI} {L : tq_PL} (V : HV I L 1 0) (x y u t : Int32) : ∃ v I2 L2, FX11_drawn I L 0 x y u t = some (v, I2, L2) ∧ FP I I2 ∧ FP L L2 ∧ ∀ J M, J 137 = I 137 → ∃ J2, FX12_drawn J M 136 x y u t = some (v, J2) ∧ FP J J2 := by
  rcases hill_case V x with ⟨e, r⟩ | ⟨i, w, h, K, hi, rfl, e, H, S, r⟩
  · exact ⟨-2, I, L, by unfold FX11_drawn; rw [rg_0_0, e, obind]; rfl, FP.rf, FP.rf, fun J M hJ => ⟨J, by unfold FX12_drawn; rw [r J M hJ, obind]; rfl, FP.rf⟩⟩
  · obtain ⟨z, hz, rfl⟩ := zI_of u
    obtain ⟨a, ha, rfl⟩ := zI_of t
    by_cases q1 : 0 ≤ z ∧ z ≤ 60
    · obtain ⟨n, rfl⟩ : ∃ n : Nat, z = n := ⟨z.toNat, by omega⟩
      obtain ⟨I2, L2, e2, p1, p2, C2⟩ := c_draw H (by omega) (by omega) y (n := n) (by omega)
      obtain ⟨v, ev, vn, vr⟩ := y_answer C2 ha
      refine ⟨v, I2, L2, ?_, p1, p2, fun J M hJ => ?_⟩
      · unfold FX11_drawn
        simp (disch := omega) only [rg_0_0, rg_0_4, e, e2, ev, zlet, obind, zI_lit, zI_neg, zI_add, zI_sub, zI_mul, zI_div, zI_le, zI_lt, zI_eq, zI_cl, irem, ile_t, ile_f, ilt_t, ilt_f, ieq_t, ieq_f, and_true, true_and, and_false, false_and, and_self, not_true_eq_false, not_false_eq_true, ↓reduceIte, Int.toNat_natCast, tqb_z, tqb_t, tqb_f, r_isIn, decide_eq_false_iff_not, decide_eq_true_eq, oel_s, oel_n, Bool.false_eq_true, btf, eq_self, or_self, or_false, false_or, or_true, true_or, iand_f, iandl_f, ior_t, ior_f]
      · obtain ⟨J1, J2, h1, h2, R1, R2, G2, P1, P2, h12, -, qa, -, A⟩ := r J M hJ
        by_cases a0 : 0 ≤ a
        · have F : FC 136 J1 (tq_up2 J1 136 38 y) := FC.up
          have qb : (tq_up2 J1 136 38 y) 137 = J 137 := by rw [F 137 (by omega)]; exact qa
          obtain ⟨J3, e3, F3, G3⟩ := r_asTold (J := tq_up2 J1 136 38 y) M R1.2.2 (i := i) hi (by rw [qb]; exact A) H.le H.z (by rw [up_n _ _ (by omega)]; exact h12)
          have R3 : RW J3 w h := by
            refine RW.fg ?_ F3
            exact ⟨by rw [up_n _ _ (by omega)]; exact R1.1, by rw [up_n _ _ (by omega)]; exact R1.2.1, R1.2.2⟩
          obtain ⟨J4, e4, R4, G4, P4, z4, l4, k4, n4, f4⟩ := r_begins e3 R3 G3
          have S4 : SR J4 w h (K, z6) := ⟨R4, G4, fun s hs => z4 s hs, l4, k4⟩
          have s38 : J4 136 38 = y := by rw [f4 38 (by omega), F3 136 38 (Or.inl (by omega)), up_s]
          obtain ⟨J5, e5, P5, S5, -⟩ := it_for (f := fun p : Int32 × tq_PI => FX12_drawn_s38 p.2 M 136 (zI (n : Int)) (zI a) p.1) (fun k (s : tq_PI) => (zI (k : Int), s)) n (fun k s => FP J4 s ∧ SR s w h (qz_it (dlt w h) k (y, (K, z6))).2 ∧ s 136 38 = (qz_it (dlt w h) k (y, (K, z6))).1) (Post := fun s => FP J4 s ∧ SR s w h (qz_it (dlt w h) n (y, (K, z6))).2 ∧ s 136 38 = (qz_it (dlt w h) n (y, (K, z6))).1) (fun k s hk hs => by
            obtain ⟨s1, s2, s3⟩ := hs
            obtain ⟨J6, e6, P6, m6, S6⟩ := r_draws (M := M) s2
            have eq : (s 136 38, (qz_it (dlt w h) k (y, (K, z6))).2) = qz_it (dlt w h) k (y, (K, z6)) := by rw [s3]
            rw [eq] at m6 S6
            unfold FX12_drawn_s38
            simp (disch := omega) only [zlet, obind, zI_lit, zI_neg, zI_add, zI_sub, zI_mul, zI_div, zI_le, zI_lt, zI_eq, zI_cl, irem, ile_t, ile_f, ilt_t, ilt_f, ieq_t, ieq_f, and_true, true_and, and_false, false_and, and_self, not_true_eq_false, not_false_eq_true, ↓reduceIte, Int.toNat_natCast, tqb_z, tqb_t, tqb_f, e6]
            refine Or.inl ⟨J6, rfl, s1.tr P6, ?_, ?_⟩
            · rw [qz_it_succ]; exact S6
            · rw [qz_it_succ]; exact m6) (fun s hs => by
            unfold FX12_drawn_s38
            simp (disch := omega) only [zlet, obind, zI_lit, zI_neg, zI_add, zI_sub, zI_mul, zI_div, zI_le, zI_lt, zI_eq, zI_cl, irem, ile_t, ile_f, ilt_t, ilt_f, ieq_t, ieq_f, and_true, true_and, and_false, false_and, and_self, not_true_eq_false, not_false_eq_true, ↓reduceIte, Int.toNat_natCast, tqb_z, tqb_t, tqb_f]
            exact ⟨_, rfl, hs⟩) 0 J4 (by omega) (by omega) ⟨FP.rf, S4, s38⟩
          obtain ⟨J7, e7, P7⟩ := vr J5 M S5 a0
          refine ⟨J7, ?_, ((((P1.tr (F.fp (by unfold psl; omega))).tr F3.fp).tr P4).tr P5).tr P7⟩
          unfold FX12_drawn
          simp (disch := omega) only [h1, e4, zlet, obind, zI_lit, zI_neg, zI_add, zI_sub, zI_mul, zI_div, zI_le, zI_lt, zI_eq, zI_cl, irem, ile_t, ile_f, ilt_t, ilt_f, ieq_t, ieq_f, and_true, true_and, and_false, false_and, and_self, not_true_eq_false, not_false_eq_true, ↓reduceIte, Int.toNat_natCast, tqb_z, tqb_t, tqb_f, r_isIn, decide_eq_false_iff_not, decide_eq_true_eq, oel_s, oel_n, Bool.false_eq_true, btf, eq_self, or_self, or_false, false_or, or_true, true_or, iand_f, iandl_f, ior_t, ior_f]
          refine (congrArg (fun o => Option.bind o _) e5).trans ((obind _ _).trans ?_)
          simp only [e7, obind]
        · rw [vn (by omega)]
          refine ⟨J1, ?_, P1⟩
          unfold FX12_drawn FX12_drawn_j23
          simp (disch := omega) only [h1, zlet, obind, zI_lit, zI_neg, zI_add, zI_sub, zI_mul, zI_div, zI_le, zI_lt, zI_eq, zI_cl, irem, ile_t, ile_f, ilt_t, ilt_f, ieq_t, ieq_f, and_true, true_and, and_false, false_and, and_self, not_true_eq_false, not_false_eq_true, ↓reduceIte, Int.toNat_natCast, tqb_z, tqb_t, tqb_f, r_isIn, decide_eq_false_iff_not, decide_eq_true_eq, oel_s, oel_n, Bool.false_eq_true, btf, eq_self, or_self, or_false, false_or, or_true, true_or, iand_f, iandl_f, ior_t, ior_f]
    · refine ⟨-2, I, L, ?_, FP.rf, FP.rf, fun J M hJ => ?_⟩
      · unfold FX11_drawn FX11_drawn_j25
        by_cases q2 : z < 0
        · simp (disch := omega) only [rg_0_0, e, zlet, obind, zI_lit, zI_neg, zI_add, zI_sub, zI_mul, zI_div, zI_le, zI_lt, zI_eq, zI_cl, irem, ile_t, ile_f, ilt_t, ilt_f, ieq_t, ieq_f, and_true, true_and, and_false, false_and, and_self, not_true_eq_false, not_false_eq_true, ↓reduceIte, Int.toNat_natCast, tqb_z, tqb_t, tqb_f, r_isIn, decide_eq_false_iff_not, decide_eq_true_eq, oel_s, oel_n, Bool.false_eq_true, btf, eq_self, or_self, or_false, false_or, or_true, true_or, iand_f, iandl_f, ior_t, ior_f]
        · simp (disch := omega) only [rg_0_0, e, zlet, obind, zI_lit, zI_neg, zI_add, zI_sub, zI_mul, zI_div, zI_le, zI_lt, zI_eq, zI_cl, irem, ile_t, ile_f, ilt_t, ilt_f, ieq_t, ieq_f, and_true, true_and, and_false, false_and, and_self, not_true_eq_false, not_false_eq_true, ↓reduceIte, Int.toNat_natCast, tqb_z, tqb_t, tqb_f, r_isIn, decide_eq_false_iff_not, decide_eq_true_eq, oel_s, oel_n, Bool.false_eq_true, btf, eq_self, or_self, or_false, false_or, or_true, true_or, iand_f, iandl_f, ior_t, ior_f]
      · obtain ⟨J1, J2, h1, h2, R1, R2, G2, P1, P2, -⟩ := r J M hJ
        refine ⟨J1, ?_, P1⟩
        unfold FX12_drawn FX12_drawn_j23
        simp (disch := omega) only [h1, zlet, obind, zI_lit, zI_neg, zI_add, zI_sub, zI_mul, zI_div, zI_le, zI_lt, zI_eq, zI_cl, irem, ile_t, ile_f, ilt_t, ilt_f, ieq_t, ieq_f, and_true, true_and, and_false, false_and, and_self, not_true_eq_false, not_false_eq_true, ↓reduceIte, Int.toNat_natCast, tqb_z, tqb_t, tqb_f, r_isIn, decide_eq_false_iff_not, decide_eq_true_eq, oel_s, oel_n, Bool.false_eq_true, btf, eq_self, or_self, or_false, false_or, or_true, true_or, iand_f, iandl_f, ior_t, ior_f]
