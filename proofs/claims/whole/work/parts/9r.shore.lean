/-! SHORED, by the reference. -/
theorem g25 : tq_rg 136 25 = 146 := by decide +kernel
section SR
variable {w h : Nat} {K : Nat → Nat}
theorem r_safeOf {J : tq_PI} (R : RW J w h) (G : GR J w h 0 K) (M : tq_PL) {s : Nat} (hs : s < 2) : ∃ J2, FX12_safeOf J M 136 (zI (s : Int)) = some (zI (fb_ct (saf w h K s) 64 : Nat), J2) ∧ FR2 J J2 := by
  have k := R.2.2
  have h48 := wh_le k
  obtain ⟨J0, e0, F0, T0⟩ := r_reaches R G (by omega) M hs
  have e0' : FX12_reaches J M 136 (0 : Int32) (zI (s : Int)) = some J0 := e0
  have R0 := R.r2 F0.r2
  have G0 := G.r2 k F0.r2
  obtain ⟨⟨x, J2⟩, e, hx, F⟩ := it_for (f := fun p : Int32 × Int32 × tq_PI => FX12_safeOf_s10 p.2.2 M 136 (zI (s : Int)) p.1 p.2.1) (fun i (s : Int32 × tq_PI) => (s.1, zI (i : Int), s.2)) (w * h) (fun i t => t.1 = zI (fb_ct (fun c => saf w h K s (pl w c)) i : Nat) ∧ FG 1 J0 t.2) (Post := fun t => t.1 = zI (fb_ct (fun c => saf w h K s (pl w c)) (w * h) : Nat) ∧ FG 1 J0 t.2) (fun i t hi ht => by
    obtain ⟨x, J1⟩ := t
    obtain ⟨hx, F⟩ := ht
    dsimp only at hx F ⊢
    subst hx
    have R1 := R0.fg F
    have G1 := G0.fg k F (by omega)
    have T1 := T0.fg F
    obtain ⟨J3, e3, _, F3⟩ := r_los R1 G1 (by omega) M hi
    have e3' : FX12_taken J1 M 136 (zI 0) (zI (i : Int)) = some (zI (los h K (pl w i) : Nat), J3) := e3
    have ec : FX12_isCut J1 M 136 (zI 0) (zI (s : Int)) (zI (i : Int)) = some (cut w h K s (pl w i)) := r_isCut R1 G1 (by omega) M hs T1 hi
    have l1 := los_le h K (pl w i)
    have l2 := fb_ct_le (fun c => saf w h K s (pl w c)) i
    unfold FX12_safeOf_s10 FX12_safeOf_j42L10 FX12_safeOf_j43L10
    simp (disch := omega) only [zlet, obind, zI_lit, zI_neg, zI_add, zI_sub, zI_mul, zI_div, zI_le, zI_lt, zI_eq, zI_cl, irem, ile_t, ile_f, ilt_t, ilt_f, ieq_t, ieq_f, and_true, true_and, and_false, false_and, and_self, not_true_eq_false, not_false_eq_true, ↓reduceIte, Int.toNat_natCast, tqb_z, tqb_t, tqb_f, r_many R1, ec, e3']
    refine Or.inl ?_
    have sd : saf w h K s (pl w i) = (cut w h K s (pl w i) && decide (los h K (pl w i) = 0)) := rfl
    cases q : cut w h K s (pl w i)
    · rw [if_pos rfl]
      refine ⟨(zI (fb_ct (fun c => saf w h K s (pl w c)) (i + 1) : Nat), J1), ?_, rfl, F⟩
      rw [fb_ct_succ, sd, q]
      simp
    · rw [if_neg (by simp)]
      by_cases q2 : los h K (pl w i) = 0
      · rw [if_pos (by omega)]
        refine ⟨(zI (fb_ct (fun c => saf w h K s (pl w c)) (i + 1) : Nat), J3), ?_, rfl, F.tr F3⟩
        rw [fb_ct_succ, sd, q, q2]
        simp
      · rw [if_neg (by omega)]
        refine ⟨(zI (fb_ct (fun c => saf w h K s (pl w c)) (i + 1) : Nat), J3), ?_, rfl, F.tr F3⟩
        rw [fb_ct_succ, sd, q]
        simp [q2]) (fun t ht => by
    unfold FX12_safeOf_s10
    simp (disch := omega) only [zlet, obind, zI_lit, zI_neg, zI_add, zI_sub, zI_mul, zI_div, zI_le, zI_lt, zI_eq, zI_cl, irem, ile_t, ile_f, ilt_t, ilt_f, ieq_t, ieq_f, and_true, true_and, and_false, false_and, and_self, not_true_eq_false, not_false_eq_true, ↓reduceIte, Int.toNat_natCast, tqb_z, tqb_t, tqb_f, r_many (R0.fg ht.2)]
    exact ⟨_, rfl, ht⟩) 0 (zI ((0 : Nat) : Int), J0) (by omega) (by omega) ⟨rfl, FG.rf⟩
  refine ⟨J2, ?_, F0.r2.tr (F.r2 (by omega))⟩
  unfold FX12_safeOf
  rw [e0', obind]
  have e' : tq_it (fun p : Int32 × Int32 × tq_PI => FX12_safeOf_s10 p.2.2 M 136 (zI (s : Int)) p.1 p.2.1) tq_N ((0 : Int32), (0 : Int32), J0) = some (x, J2) := e
  rw [e', obind]
  dsimp only at hx
  rw [hx, ct_all k (saf w h K s) (fun p q => by simp only [saf, Bool.and_eq_true] at q; exact cut_ar G.2.2 q.1)]
def FU (I J : tq_PI) : Prop := ∀ a, a ≠ 140 → a ≠ 141 → J a = I a
theorem FU.tr {I J M : tq_PI} (h : FU I J) (k : FU J M) : FU I M := fun a q r => (k a q r).trans (h a q r)
theorem FC.fu {I J : tq_PI} (F : FC 140 I J) : FU I J := fun a q _ => F a q
theorem FR2.fu {I J : tq_PI} (F : FR2 I J) : FU I J := fun a q r => funext fun j => F a j (by omega)
theorem r_shb_end {J : tq_PI} (R : RW J w h) (G : GR J w h 0 K) (M : tq_PL) (st : sta h (sol K) = true) : ∃ J2, FX12_shoredBy_j85 J M 136 = some (zI (sv w h K), J2) ∧ FR2 J J2 := by
  obtain ⟨J1, e1, F1⟩ := r_safeOf R G M (s := 0) (by omega)
  obtain ⟨J2, e2, F2⟩ := r_safeOf (R.r2 F1) (G.r2 R.2.2 F1) M (s := 1) (by omega)
  have e1' : FX12_safeOf J M 136 (0 : Int32) = some (zI (fb_ct (saf w h K 0) 64 : Nat), J1) := e1
  have e2' : FX12_safeOf J1 M 136 (1 : Int32) = some (zI (fb_ct (saf w h K 1) 64 : Nat), J2) := e2
  refine ⟨J2, ?_, F1.tr F2⟩
  unfold FX12_shoredBy_j85
  rw [e1', obind]
  dsimp only
  rw [e2', obind]
  dsimp only
  rw [zI_add]
  unfold sv
  rw [st, if_pos rfl]
  rfl
theorem sta_k1 {K : Nat → Nat} (S : Stn h K) {q : Nat} : sta h (sol (kup K q 4)) = std h (sol (kup K q 4)) q := by
  cases e : std h (sol (kup K q 4)) q
  · cases g : sta h (sol (kup K q 4))
    · rfl
    · have := sta_iff.1 g q (by simp [sol, kup])
      rw [e] at this; cases this
  · refine sta_iff.2 fun p hp => ?_
    by_cases g : p = q
    · rw [g]; exact e
    · refine std_mono (S := sol K) (fun r hr => ?_) (S p (by simpa [sol, kup, g] using hp))
      by_cases g2 : r = q
      · simp [sol, kup, g2]
      · simpa [sol, kup, g2] using hr
theorem sta_k2 {K : Nat → Nat} (S : Stn h K) {q r : Nat} : sta h (sol (kup (kup K q 4) r 4)) = (std h (sol (kup (kup K q 4) r 4)) q && std h (sol (kup (kup K q 4) r 4)) r) := by
  cases e : std h (sol (kup (kup K q 4) r 4)) q && std h (sol (kup (kup K q 4) r 4)) r
  · cases g : sta h (sol (kup (kup K q 4) r 4))
    · rfl
    · have h1 := sta_iff.1 g q (by simp [sol, kup])
      have h2 := sta_iff.1 g r (by simp [sol, kup])
      rw [h1, h2] at e; cases e
  · rw [Bool.and_eq_true] at e
    refine sta_iff.2 fun p hp => ?_
    by_cases g : p = q
    · rw [g]; exact e.1
    · by_cases g3 : p = r
      · rw [g3]; exact e.2
      · refine std_mono (S := sol K) (fun s hr => ?_) (S p (by simpa [sol, kup, g, g3] using hp))
        by_cases g2 : s = q
        · by_cases g4 : s = r <;> simp [sol, kup, g2]
        · by_cases g4 : s = r
          · simp [sol, kup, g4]
          · simpa [sol, kup, g2, g4] using hr
theorem sol_k4 (K : Nat → Nat) (q : Nat) : sol (kup K q 4) q = true := by simp [sol, kup]
theorem sol_k5 (K : Nat → Nat) (q r : Nat) : sol (kup (kup K q 4) r 4) q = true := by
  unfold sol kup
  by_cases e : q = r <;> simp [e]
theorem r_shb {J : tq_PI} {i : Nat} (R : RH J i w h K) (S : Stn h K) (M : tq_PL) {n a b : Nat} (hn : n ≤ 2) (ha : a < w * h) (hb : b < w * h) (hab : n = 2 → a < b) : ∃ J2, FX12_shoredBy J M 136 (zI (n : Int)) (zI (a : Int)) (zI (b : Int)) = some (zI (fsh w h K n (pl w a) (pl w b)), J2) ∧ FU J J2 := by
  have k := R.1.2.2
  have h48 := wh_le k
  obtain ⟨J1, e1, F1, R1, G1⟩ := R.told M
  have kz : ∀ p, (zI ((K p : Nat) : Int) = 0) = (K p = 0) := fun p => by
    have := R.2.2.2.2.1 p
    rw [zI_lit, zI_eq (by omega) (by omega)]
    simp
  have ka : ∀ c, c < w * h → air w h K (pl w c) = decide (K (pl w c) = 0) := fun c hc => by unfold air; rw [pl_ar k hc]; simp
  have kk : ∀ c, c < w * h → FX12_kindOf J1 M 136 (0 : Int32) (zI (c : Int)) = some (zI (K (pl w c) : Nat)) := fun c hc => r_kind0 k G1 M (z := (c : Int)) (by omega)
  have hG1 := G1.up k ha (v := 4) (by omega)
  rw [show 48 * 0 + a = a by omega] at hG1
  have hF1 : FG 0 J1 (tq_up2 J1 140 a (zI 4)) := FG.up (by omega)
  have hR1 := R1.fg hF1
  have hG2 := hG1.up k hb (v := 4) (by omega)
  rw [show 48 * 0 + b = b by omega] at hG2
  have hF2 : FG 0 (tq_up2 J1 140 a (zI 4)) (tq_up2 (tq_up2 J1 140 a (zI 4)) 140 b (zI 4)) := FG.up (by omega)
  have hR2 := hR1.fg hF2
  have ca : (0 : Int32) ≤ zI (a : Int) ∧ zI (a : Int) < 192 := by rw [show (192 : Int32) = zI 192 from rfl, show (0 : Int32) = zI 0 from rfl, zI_le (by omega) (by omega), zI_lt (by omega) (by omega)]; omega
  have cb : (0 : Int32) ≤ zI (b : Int) ∧ zI (b : Int) < 192 := by rw [show (192 : Int32) = zI 192 from rfl, show (0 : Int32) = zI 0 from rfl, zI_le (by omega) (by omega), zI_lt (by omega) (by omega)]; omega
  have ta : (zI (a : Int)).toNatClampNeg = a := by rw [zI_cl (by omega)]; omega
  have tb : (zI (b : Int)).toNatClampNeg = b := by rw [zI_cl (by omega)]; omega
  have t0 : tq_b false = 0 := rfl
  have t1 : ¬ tq_b true = 0 := by decide
  rcases (by omega : n = 0 ∨ n = 1 ∨ n = 2) with rfl | rfl | rfl
  · obtain ⟨J2, e2, F2⟩ := r_shb_end R1 G1 M (sta_iff.2 S)
    refine ⟨J2, ?_, F1.fu.tr F2.fu⟩
    have c0 : zI ((0 : Nat) : Int) ≤ 0 := by decide
    have c1 : zI ((0 : Nat) : Int) ≤ 1 := by decide
    unfold FX12_shoredBy
    rw [e1, obind, if_pos c0]
    unfold FX12_shoredBy_j17
    rw [if_pos c1]
    unfold FX12_shoredBy_j33
    rw [if_pos c0]
    unfold FX12_shoredBy_j44
    rw [if_pos c1]
    unfold FX12_shoredBy_j56
    rw [if_pos c0]
    unfold FX12_shoredBy_j69
    rw [if_pos c1, e2]
    rfl
  · have c0 : ¬ zI ((1 : Nat) : Int) ≤ 0 := by decide
    have c1 : zI ((1 : Nat) : Int) ≤ 1 := by decide
    unfold FX12_shoredBy
    rw [e1, obind, if_neg c0, kk a ha, obind]
    by_cases q : K (pl w a) = 0
    · have es := r_stands hR1 hG1 (by omega) M ha
      rw [sol_k4, Bool.not_true, Bool.false_or, ← sta_k1 S] at es
      have es' : FX12_stands (tq_up2 J1 140 a (4 : Int32)) M 136 (0 : Int32) (zI (a : Int)) = some (sta h (sol (kup K (pl w a) 4))) := es
      have ef : fsh w h K 1 (pl w a) (pl w b) = sv w h (kup K (pl w a) 4) := by unfold fsh; rw [ka a ha]; simp [q]
      rw [ef, if_pos (by rw [kz]; exact q)]
      unfold FX12_shoredBy_j17
      rw [if_pos c1]
      unfold FX12_shoredBy_j33
      rw [if_neg c0, if_pos ca, g15, ta]
      unfold FX12_shoredBy_j44
      rw [if_pos c1]
      unfold FX12_shoredBy_j56
      rw [if_neg c0, es', obind]
      cases st : sta h (sol (kup K (pl w a) 4))
      · refine ⟨_, ?_, F1.fu.tr hF1.fc.fu⟩
        rw [if_pos t0]
        unfold sv
        rw [st]
        rfl
      · obtain ⟨J2, e2, F2⟩ := r_shb_end hR1 hG1 M st
        refine ⟨J2, ?_, (F1.fu.tr hF1.fc.fu).tr F2.fu⟩
        rw [if_neg t1]
        unfold FX12_shoredBy_j69
        rw [if_pos c1]
        exact e2
    · refine ⟨J1, ?_, F1.fu⟩
      rw [if_neg (by rw [kz]; exact q)]
      unfold fsh
      rw [ka a ha]
      simp [q]
      rfl
  · have hab := hab rfl
    have c0 : ¬ zI ((2 : Nat) : Int) ≤ 0 := by decide
    have c1 : ¬ zI ((2 : Nat) : Int) ≤ 1 := by decide
    unfold FX12_shoredBy
    rw [e1, obind, if_neg c0, kk a ha, obind]
    by_cases q : K (pl w a) = 0
    · rw [if_pos (by rw [kz]; exact q)]
      unfold FX12_shoredBy_j17
      rw [if_neg c1, kk b hb, obind]
      by_cases q2 : K (pl w b) = 0
      · rw [if_pos (by rw [kz]; exact q2)]
        have es := r_stands hR2 hG2 (by omega) M ha
        have et := r_stands hR2 hG2 (by omega) M hb
        rw [sol_k5, Bool.not_true, Bool.false_or] at es
        rw [sol_k4, Bool.not_true, Bool.false_or] at et
        have es' : FX12_stands (tq_up2 (tq_up2 J1 140 a (4 : Int32)) 140 b (4 : Int32)) M 136 (0 : Int32) (zI (a : Int)) = some (std h (sol (kup (kup K (pl w a) 4) (pl w b) 4)) (pl w a)) := es
        have et' : FX12_stands (tq_up2 (tq_up2 J1 140 a (4 : Int32)) 140 b (4 : Int32)) M 136 (0 : Int32) (zI (b : Int)) = some (std h (sol (kup (kup K (pl w a) 4) (pl w b) 4)) (pl w b)) := et
        have ef : fsh w h K 2 (pl w a) (pl w b) = sv w h (kup (kup K (pl w a) 4) (pl w b) 4) := by unfold fsh; rw [ka a ha, ka b hb]; simp [q, q2]
        have st2 := sta_k2 S (q := pl w a) (r := pl w b)
        rw [ef]
        unfold FX12_shoredBy_j33
        rw [if_neg c0, if_pos ca, g15, ta]
        unfold FX12_shoredBy_j44
        rw [if_neg c1, if_pos cb, g15, tb]
        unfold FX12_shoredBy_j56
        rw [if_neg c0, es', obind]
        cases sa : std h (sol (kup (kup K (pl w a) 4) (pl w b) 4)) (pl w a)
        · rw [sa] at st2
          rw [if_pos t0]
          refine ⟨_, ?_, (F1.fu.tr hF1.fc.fu).tr hF2.fc.fu⟩
          unfold sv
          rw [st2]
          rfl
        · rw [if_neg t1]
          unfold FX12_shoredBy_j69
          rw [if_neg c1, et', obind]
          rw [sa] at st2
          cases sb' : std h (sol (kup (kup K (pl w a) 4) (pl w b) 4)) (pl w b)
          · rw [sb'] at st2
            rw [if_pos t0]
            refine ⟨_, ?_, (F1.fu.tr hF1.fc.fu).tr hF2.fc.fu⟩
            unfold sv
            rw [st2]
            rfl
          · rw [sb'] at st2
            rw [if_neg t1]
            obtain ⟨J2, e2, F2⟩ := r_shb_end hR2 hG2 M st2
            exact ⟨J2, e2, ((F1.fu.tr hF1.fc.fu).tr hF2.fc.fu).tr F2.fu⟩
      · refine ⟨J1, ?_, F1.fu⟩
        rw [if_neg (by rw [kz]; exact q2)]
        unfold fsh
        rw [ka a ha, ka b hb]
        simp [q2]
        rfl
    · refine ⟨J1, ?_, F1.fu⟩
      rw [if_neg (by rw [kz]; exact q)]
      unfold fsh
      rw [ka a ha]
      simp [q]
      rfl
end SR
