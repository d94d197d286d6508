/-! YEARS: the reference's deeds; a year's data; a step told. -/
def SR (J : tq_PI) (w h : Nat) (x : Yst) : Prop := RW J w h ∧ GR J w h 0 x.1 ∧ (∀ s, s < 2 → J 144 s = zI (x.2 s : Nat) ∧ J 145 s = zI (x.2 (2 + s) : Nat)) ∧ J 136 22 = zI (x.2 4 : Nat) ∧ J 136 23 = zI (x.2 5 : Nat)
/-- what lasts over a deed, of the reference's -/
def FY (I J : tq_PI) : Prop := (∀ a, a ≠ 136 → a ≠ 140 → a ≠ 141 → a ≠ 142 → a ≠ 144 → a ≠ 145 → J a = I a) ∧ ∀ j, j ≠ 22 → j ≠ 23 → J 136 j = I 136 j
theorem FY.rf {I : tq_PI} : FY I I := ⟨fun _ _ _ _ _ _ _ => rfl, fun _ _ _ => rfl⟩
theorem FY.tr {I J M : tq_PI} (h : FY I J) (k : FY J M) : FY I M := ⟨fun a q1 q2 q3 q4 q5 q6 => (k.1 a q1 q2 q3 q4 q5 q6).trans (h.1 a q1 q2 q3 q4 q5 q6), fun j q1 q2 => (k.2 j q1 q2).trans (h.2 j q1 q2)⟩
theorem FC.fy {b : Nat} {I J : tq_PI} (h : FC b I J) (q : b = 140 ∨ b = 141 ∨ b = 142 ∨ b = 144 ∨ b = 145) : FY I J := ⟨fun a q1 q2 q3 q4 q5 q6 => h a (by omega), fun j _ _ => by rw [h 136 (by omega)]⟩
theorem FG.fy {l : Nat} {I J : tq_PI} (h : FG l I J) : FY I J := ⟨fun a q1 q2 q3 q4 q5 q6 => funext fun j => h a j (Or.inl q2), fun j _ _ => h 136 j (Or.inl (by omega))⟩
theorem FY.up {I : tq_PI} {j : Nat} {v : Int32} (q : j = 22 ∨ j = 23) : FY I (tq_up2 I 136 j v) := ⟨fun a q1 _ _ _ _ _ => tq_up2_ne q1, fun i q1 q2 => up_n _ _ (by omega)⟩
theorem FY.fp {I J : tq_PI} (h : FY I J) : FP I J := fun a p => h.1 a (by unfold psl at p; omega) (by unfold psl at p; omega) (by unfold psl at p; omega) (by unfold psl at p; omega) (by unfold psl at p; omega) (by unfold psl at p; omega)
section YR
variable {w h : Nat} {x : Yst}
theorem SR.fc {J M : tq_PI} (S : SR J w h x) {b : Nat} (F : FC b J M) (q : b = 141 ∨ b = 142) : SR M w h x := by
  refine ⟨S.1.fc F (by omega), S.2.1.fc F (by omega), fun s hs => ?_, ?_, ?_⟩
  · rw [F 144 (by omega), F 145 (by omega)]; exact S.2.2.1 s hs
  · rw [F 136 (by omega)]; exact S.2.2.2.1
  · rw [F 136 (by omega)]; exact S.2.2.2.2
theorem r_cutBy {J : tq_PI} (S : SR J w h x) (M : tq_PL) {s c : Nat} (hs : s < 2) (hc : c < w * h) : ∃ J2, FX12_cutBy J M 136 (zI (s : Int)) (zI (c : Int)) = some (cut w h x.1 s (pl w c), J2) ∧ FY J J2 ∧ SR J2 w h (if cut w h x.1 s (pl w c) then dct h x s (pl w c) else x) := by
  obtain ⟨R, G, hv, h4, h5⟩ := S
  have k := R.2.2
  have h48 := wh_le k
  obtain ⟨J1, e1, F1, T1⟩ := r_reaches R G (by omega) M hs
  have R1 := R.fc F1 (by omega)
  have G1 := G.fc F1 (by omega)
  have ic := r_isCut R1 G1 (by omega) M hs T1 hc
  have e1' : FX12_reaches J M 136 (zI 0) (zI (s : Int)) = some J1 := e1
  have ic' : FX12_isCut J1 M 136 (zI 0) (zI (s : Int)) (zI (c : Int)) = some (cut w h x.1 s (pl w c)) := ic
  have S1 : SR J1 w h x := SR.fc ⟨R, G, hv, h4, h5⟩ F1 (by omega)
  unfold FX12_cutBy
  simp only [zI_lit, e1', obind, ic', tqb_z]
  cases qc : cut w h x.1 s (pl w c)
  · rw [if_pos rfl]
    exact ⟨J1, rfl, F1.fy (by omega), by simpa using S1⟩
  · rw [if_neg (by simp)]
    have st : sto x.1 (pl w c) = true := by simp only [cut, Bool.and_eq_true] at qc; exact qc.1
    have gk : J1 140 c = zI (x.1 (pl w c) : Nat) := by have := G1.1 c hc; rw [show 48 * 0 + c = c by omega] at this; exact this
    have hv1 := S1.2.2.1
    simp (disch := omega) only [zlet, obind, zI_lit, zI_neg, zI_add, zI_sub, zI_mul, zI_div, zI_le, zI_lt, zI_eq, zI_cl, irem, ile_t, ile_f, ilt_t, ilt_f, ieq_t, ieq_f, and_true, true_and, and_false, false_and, and_self, not_true_eq_false, not_false_eq_true, ↓reduceIte, Int.toNat_natCast, tqb_z, tqb_t, tqb_f, g20, g21, g15, gk, up_n, r_worth _ _ (G1.2.1 _), (hv1 s hs).1, (hv1 s hs).2, S1.2.2.2.1, FX12_blowsOf]
    obtain ⟨J3, hJ3⟩ : ∃ J3, J3 = tq_up2 (tq_up2 (tq_up2 J1 144 s (zI (x.2 s + (wor (x.1 (pl w c)) : Int)))) 145 s (zI (x.2 (2 + s) + (x.1 (pl w c) : Int)))) 140 c (zI 0) := ⟨_, rfl⟩
    rw [← hJ3]
    have Fa : FC 144 J1 (tq_up2 J1 144 s (zI (x.2 s + (wor (x.1 (pl w c)) : Int)))) := FC.up
    have Fb : FC 145 (tq_up2 J1 144 s (zI (x.2 s + (wor (x.1 (pl w c)) : Int)))) (tq_up2 (tq_up2 J1 144 s (zI (x.2 s + (wor (x.1 (pl w c)) : Int)))) 145 s (zI (x.2 (2 + s) + (x.1 (pl w c) : Int)))) := FC.up
    have Fc : FC 140 (tq_up2 (tq_up2 J1 144 s (zI (x.2 s + (wor (x.1 (pl w c)) : Int)))) 145 s (zI (x.2 (2 + s) + (x.1 (pl w c) : Int)))) J3 := by rw [hJ3]; exact FC.up
    have R3 : RW J3 w h := ((R1.fc Fa (by omega)).fc Fb (by omega)).fc Fc (by omega)
    have G3 : GR J3 w h 0 (kup x.1 (pl w c) 0) := by
      have := ((G1.fc Fa (by omega)).fc Fb (by omega)).up k hc (v := 0) (by omega)
      rw [show 48 * 0 + c = c by omega] at this
      rw [hJ3]
      exact this
    obtain ⟨n, J4, e4, G4, F4, hn⟩ := r_falls R3 G3 (by omega) M
    have e4' : FX12_falls J3 M 136 (zI 0) = some (zI (n : Int), J4) := e4
    have nl : n = los h x.1 (pl w c) := by unfold los; omega
    have l22 : J3 136 22 = zI (x.2 4 : Nat) := by rw [Fc 136 (by omega), Fb 136 (by omega), Fa 136 (by omega)]; exact S1.2.2.2.1
    have bl : blo (x.1 (pl w c)) = x.1 (pl w c) := by
      simp only [sto, decide_eq_true_eq] at st
      unfold blo
      rcases (by omega : x.1 (pl w c) = 1 ∨ x.1 (pl w c) = 2 ∨ x.1 (pl w c) = 3) with e | e | e <;> rw [e] <;> rfl
    simp only [e4', obind, l22, zI_add]
    refine ⟨_, rfl, ?_, ?_⟩
    · exact ((((F1.fy (by omega)).tr (Fa.fy (by omega))).tr (Fb.fy (by omega))).tr (Fc.fy (by omega))).tr (F4.fy.tr (FY.up (by omega)))
    · have v144 : J4 144 = (tq_up2 J1 144 s (zI (x.2 s + (wor (x.1 (pl w c)) : Int)))) 144 := by
        funext j
        rw [F4 144 j (Or.inl (by omega)), Fc 144 (by omega), Fb 144 (by omega)]
      have v145 : ∀ j, J4 145 j = (tq_up2 (tq_up2 J1 144 s (zI (x.2 s + (wor (x.1 (pl w c)) : Int)))) 145 s (zI (x.2 (2 + s) + (x.1 (pl w c) : Int)))) 145 j := fun j => by
        rw [F4 145 j (Or.inl (by omega)), Fc 145 (by omega)]
      refine ⟨?_, ?_, fun t ht => ⟨?_, ?_⟩, ?_, ?_⟩
      · have := R3.fg F4
        refine ⟨?_, ?_, k⟩
        · rw [up_n _ _ (by omega)]; exact this.1
        · rw [up_n _ _ (by omega)]; exact this.2.1
      · unfold GR
        rw [tq_up2_ne (by omega)]
        exact G4
      · rw [tq_up2_ne (by omega), v144]
        unfold dct vup
        by_cases ts : t = s
        · rw [ts, up_s]
          dsimp only
          rw [if_neg (by omega), if_neg (by omega), if_pos rfl]; rfl
        · rw [up_n _ _ (by omega), (hv1 t ht).1]
          dsimp only
          rw [if_neg (by omega), if_neg (by omega), if_neg (by omega)]
      · rw [tq_up2_ne (by omega), v145]
        unfold dct vup
        by_cases ts : t = s
        · rw [ts, up_s]
          dsimp only
          rw [if_neg (by omega), if_pos rfl, if_neg (by omega), bl]; rfl
        · rw [up_n _ _ (by omega), up_n _ _ (by omega), (hv1 t ht).2]
          dsimp only
          rw [if_neg (by omega), if_neg (by omega), if_neg (by omega)]
      · rw [up_s, nl]
        unfold dct vup
        dsimp only
        rw [if_pos rfl, if_neg (by omega), if_neg (by omega)]; rfl
      · rw [up_n _ _ (by omega), F4 136 23 (Or.inl (by omega)), Fc 136 (by omega), Fb 136 (by omega), Fa 136 (by omega), S1.2.2.2.2]
        unfold dct vup
        dsimp only
        rw [if_neg (by omega), if_neg (by omega), if_neg (by omega)]
/-- one deed, told by a kind, a place and a number -/
noncomputable def done1 (w h d p : Nat) (k : Int) (x : Yst) : Option Yst := if d = 3 then some (dkn w h x k) else if d = 2 then (if air w h x.1 p then some (dpr x p) else none) else (if cut w h x.1 d p then some (dct h x d p) else none)
theorem r_does {J : tq_PI} (S : SR J w h x) (M : tq_PL) {d c : Nat} (hd : d ≤ 3) {z k : Int} (hz : d = 3 ∨ (c < w * h ∧ z = c)) (hk : -2147483648 ≤ k ∧ k < 2147483648) : ∃ J2, FX12_does J M 136 (zI (d : Int)) (zI z) (zI k) = some ((done1 w h d (pl w c) k x).isSome, J2) ∧ FY J J2 ∧ SR J2 w h ((done1 w h d (pl w c) k x).getD x) := by
  have k0 := S.1.2.2
  have h48 := wh_le k0
  by_cases d3 : d = 3
  · obtain ⟨J1, r, e1, F1, f1⟩ := r_thick S.1 S.2.1 (by omega) M
    have e1' : FX12_thickOf J M 136 (zI 0) = some (zI r, J1) := e1
    have rr := Few_rng f1
    have S1 := S.fc F1 (by omega)
    have hth := thk_eq f1
    have dn : done1 w h d (pl w c) k x = some (dkn w h x k) := by unfold done1; rw [if_pos d3]
    rw [dn]
    have fin : ∀ b : Nat, b = (if thk w h x.1 ≠ -1 ∧ thk w h x.1 ≤ k then 1 else 0) → SR (tq_up2 J1 136 23 (zI (x.2 5 + (b : Int)))) w h (dkn w h x k) := fun b hb => by
      refine ⟨⟨?_, ?_, k0⟩, ?_, fun s hs => ?_, ?_, ?_⟩
      · rw [up_n _ _ (by omega)]; exact S1.1.1
      · rw [up_n _ _ (by omega)]; exact S1.1.2.1
      · unfold GR; rw [tq_up2_ne (by omega)]; exact S1.2.1
      · rw [tq_up2_ne (by omega), tq_up2_ne (by omega)]
        unfold dkn vup
        dsimp only
        rw [if_neg (by omega), if_neg (by omega)]
        exact S1.2.2.1 s hs
      · rw [up_n _ _ (by omega)]
        unfold dkn vup
        dsimp only
        rw [if_neg (by omega)]
        exact S1.2.2.2.1
      · rw [up_s]
        unfold dkn vup
        dsimp only
        rw [if_pos rfl, ← hb]
        rfl
    unfold FX12_does FX12_does_j33 FX12_does_j34
    simp (disch := omega) only [zlet, obind, zI_lit, zI_neg, zI_add, zI_sub, zI_mul, zI_div, zI_le, zI_lt, zI_eq, zI_cl, irem, ile_t, ile_f, ilt_t, ilt_f, ieq_t, ieq_f, and_true, true_and, and_false, false_and, and_self, not_true_eq_false, not_false_eq_true, ↓reduceIte, Int.toNat_natCast, tqb_z, tqb_t, tqb_f, e1', S1.2.2.2.2]
    by_cases q1 : r = -1
    · rw [if_pos q1]
      exact ⟨_, rfl, (F1.fy (by omega)).tr (FY.up (by omega)), fin 0 (by rw [hth, if_neg (by omega)])⟩
    · rw [if_neg q1]
      by_cases q2 : k < r
      · rw [if_pos q2]
        exact ⟨_, rfl, (F1.fy (by omega)).tr (FY.up (by omega)), fin 0 (by rw [hth, if_neg (by omega)])⟩
      · rw [if_neg q2]
        exact ⟨_, rfl, (F1.fy (by omega)).tr (FY.up (by omega)), fin 1 (by rw [hth, if_pos (by omega)])⟩
  · obtain ⟨hc, rfl⟩ := hz.resolve_left d3
    by_cases d2 : d = 2
    · have dn : done1 w h d (pl w c) k x = if air w h x.1 (pl w c) then some (dpr x (pl w c)) else none := by unfold done1; rw [if_neg d3, if_pos d2]
      have ha : air w h x.1 (pl w c) = decide (x.1 (pl w c) = 0) := by simp [air, pl_ar k0 hc]
      have kl := S.2.1.2.1 (pl w c)
      rw [dn]
      unfold FX12_does
      simp (disch := omega) only [zlet, obind, zI_lit, zI_neg, zI_add, zI_sub, zI_mul, zI_div, zI_le, zI_lt, zI_eq, zI_cl, irem, ile_t, ile_f, ilt_t, ilt_f, ieq_t, ieq_f, and_true, true_and, and_false, false_and, and_self, not_true_eq_false, not_false_eq_true, ↓reduceIte, Int.toNat_natCast, tqb_z, tqb_t, tqb_f, r_kind0 k0 S.2.1, g15]
      by_cases q : x.1 (pl w c) = 0
      · rw [ha, if_pos (by omega)]
        simp only [q, decide_true, if_true]
        refine ⟨_, rfl, (FC.up (b := 140)).fy (by omega), ⟨?_, ?_, fun s hs => ?_, ?_, ?_⟩⟩
        · exact S.1.fc (FC.up (b := 140)) (by omega)
        · have := S.2.1.up k0 hc (v := 4) (by omega)
          rw [show 48 * 0 + c = c by omega] at this
          exact this
        · rw [tq_up2_ne (by omega), tq_up2_ne (by omega)]; exact S.2.2.1 s hs
        · rw [tq_up2_ne (by omega)]; exact S.2.2.2.1
        · rw [tq_up2_ne (by omega)]; exact S.2.2.2.2
      · rw [ha, if_neg (by omega)]
        simp only [q, decide_false, Bool.false_eq_true, if_false]
        exact ⟨J, rfl, FY.rf, S⟩
    · have dn : done1 w h d (pl w c) k x = if cut w h x.1 d (pl w c) then some (dct h x d (pl w c)) else none := by unfold done1; rw [if_neg d3, if_neg d2]
      rw [dn]
      obtain ⟨J2, e2, F2, S2⟩ := r_cutBy S M (s := d) (c := c) (by omega) hc
      refine ⟨J2, ?_, F2, ?_⟩
      · unfold FX12_does
        simp (disch := omega) only [zlet, obind, zI_lit, zI_neg, zI_add, zI_sub, zI_mul, zI_div, zI_le, zI_lt, zI_eq, zI_cl, irem, ile_t, ile_f, ilt_t, ilt_f, ieq_t, ieq_f, and_true, true_and, and_false, false_and, and_self, not_true_eq_false, not_false_eq_true, ↓reduceIte, Int.toNat_natCast, tqb_z, tqb_t, tqb_f, e2]
        cases cut w h x.1 d (pl w c) <;> rfl
      · cases qc : cut w h x.1 d (pl w c)
        · rw [qc] at S2; simpa using S2
        · rw [qc] at S2; simpa using S2
end YR
/-! a year's data -/
def YD (I : tq_PI) (y : Nat) (A : Nat → Int32) (o m : Nat) (yk yf ys : Nat → Nat) : Prop := m ≤ 40 ∧ I y 0 = zI (m : Int) ∧ A o = zI (m : Int) ∧ ∀ k, k < m → yk k ≤ 3 ∧ yf k ≤ 20 ∧ ys k ≤ 5 ∧ I (y + 1) k = zI (yk k : Nat) ∧ I (y + 2) k = zI (yf k : Nat) ∧ I (y + 3) k = (if yk k = 3 then zI (-1) else zI (ys k : Nat)) ∧ A (o + 1 + 3 * k) = zI (yk k : Nat) ∧ A (o + 2 + 3 * k) = zI (yf k : Nat) ∧ A (o + 3 + 3 * k) = (if yk k = 3 then zI (-1) else zI (ys k : Nat))
noncomputable def tld (w h d f s : Nat) (x : Yst) : Option Yst := if d = 3 ∨ (f < w ∧ s < h) then done1 w h d (8 * s + f) f x else none
theorem r_told {J : tq_PI} {w h o m : Nat} {x : Yst} {yk yf ys : Nat → Nat} {I : tq_PI} {y : Nat} (S : SR J w h x) (M : tq_PL) (D : YD I y (J 137) o m yk yf ys) (hd0 : J 136 19 = zI (o : Int)) (ho : o + 121 ≤ 4016) {k : Nat} (hk : k < m) : ∃ J2, FX12_doesTold J M 136 (zI (k : Int)) = some ((tld w h (yk k) (yf k) (ys k) x).isSome, J2) ∧ FY J J2 ∧ SR J2 w h ((tld w h (yk k) (yf k) (ys k) x).getD x) := by
  obtain ⟨hm, -, -, hD⟩ := D
  obtain ⟨d1, d2, d3, -, -, -, d4, d5, d6⟩ := hD k hk
  have k0 := S.1.2.2
  have h48 := wh_le k0
  have hw := k0.2.1
  have hh := k0.2.2.2
  unfold FX12_doesTold FX12_doesTold_j73 FX12_doesTold_j71
  simp (disch := omega) only [zlet, obind, zI_lit, zI_neg, zI_add, zI_sub, zI_mul, zI_div, zI_le, zI_lt, zI_eq, zI_cl, irem, ile_t, ile_f, ilt_t, ilt_f, ieq_t, ieq_f, and_true, true_and, and_false, false_and, and_self, not_true_eq_false, not_false_eq_true, ↓reduceIte, Int.toNat_natCast, tqb_z, tqb_t, tqb_f, hd0, g0, S.1.1, S.1.2.1]
  rw [show ((o : Int) + 1 + 3 * (k : Int)).toNat = o + 1 + 3 * k by omega, show ((o : Int) + 2 + 3 * (k : Int)).toNat = o + 2 + 3 * k by omega, show ((o : Int) + 3 + 3 * (k : Int)).toNat = o + 3 + 3 * k by omega, d4, d5, d6]
  unfold tld
  by_cases q3 : yk k = 3
  · rw [if_pos (Or.inl q3)]
    simp only [if_pos q3]
    obtain ⟨J2, e2, F2, S2⟩ := r_does (c := cl w (8 * ys k + yf k)) S M (d := yk k) d1 (z := (w : Int) * (-1) + (yf k : Int)) (k := (yf k : Int)) (Or.inl q3) (by omega)
    have dn : ∀ p p2, done1 w h (yk k) p (yf k : Int) x = done1 w h (yk k) p2 (yf k : Int) x := fun p p2 => by unfold done1; rw [if_pos q3, if_pos q3]
    rw [dn _ (8 * ys k + yf k)] at e2 S2
    refine ⟨J2, ?_, F2, S2⟩
    rw [if_pos (by rw [zI_eq (by omega) (by omega)]; omega)]
    simp only [zI_mul, zI_add, e2, obind]
  · simp only [if_neg q3]
    rw [if_neg (by rw [zI_eq (by omega) (by omega)]; omega)]
    simp (disch := omega) only [zI_le, zI_lt]
    by_cases q1 : yf k < w ∧ ys k < h
    · rw [if_pos (Or.inr q1), if_neg (by omega), if_pos (by omega)]
      have ap : ar w h (8 * ys k + yf k) = true := by rw [ar_iff]; omega
      have ec : cl w (8 * ys k + yf k) = w * ys k + yf k := by
        unfold cl
        rw [show (8 * ys k + yf k) / 8 = ys k by omega, show (8 * ys k + yf k) % 8 = yf k by omega]
      have hc := cl_lt k0 ap
      obtain ⟨J2, e2, F2, S2⟩ := r_does (c := cl w (8 * ys k + yf k)) S M (d := yk k) d1 (z := (w : Int) * (ys k : Int) + (yf k : Int)) (k := (yf k : Int)) (Or.inr ⟨hc, by rw [ec]; simp⟩) (by omega)
      rw [pl_cl k0 ap] at e2 S2
      refine ⟨J2, ?_, F2, S2⟩
      simp only [zI_mul, zI_add, e2, obind]
    · rw [if_neg (show ¬ (yk k = 3 ∨ (yf k < w ∧ ys k < h)) by omega)]
      refine ⟨J, ?_, FY.rf, S⟩
      by_cases q2 : w ≤ yf k
      · rw [if_pos (show (w : Int) ≤ (yf k : Int) by omega)]; rfl
      · rw [if_neg (show ¬ (w : Int) ≤ (yf k : Int) by omega), if_neg (show ¬ (ys k : Int) < (h : Int) by omega)]; rfl
