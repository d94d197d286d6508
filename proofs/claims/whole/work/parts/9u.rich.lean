/-! RICH, by the reference: what a side sees, what it tries, what is richer. -/
theorem g26 : tq_rg 136 26 = 147 := by decide +kernel
theorem g27 : tq_rg 136 27 = 148 := by decide +kernel
theorem g30 : tq_rg 136 30 = 149 := by decide +kernel
theorem bb_sar {c : Nat} (hc : c < 64) (x : Int64) : ((x >>> (Int32.toInt64 (zI (c : Int)) &&& 63)) &&& (1 : Int64)) = if bb x c then 1 else 0 := by
  have e : ∀ p, bb ((x >>> (Int32.toInt64 (zI (c : Int)) &&& 63)) &&& (1 : Int64)) p = (decide (p = 0) && bb x c) := fun p => by
    rw [bb_and, bb_1]
    by_cases q : p = 0
    · subst q
      simp only [decide_true, Bool.and_true, Bool.true_and]
      unfold bb
      rw [Int64.toBitVec_shiftRight]
      show (x.toBitVec.sshiftRight (((zI (c : Int)).toInt64 &&& 63).toBitVec.smod 64).toNat).getLsbD 0 = _
      rw [zs_l c hc, BitVec.getLsbD_sshiftRight]
      simp [hc]
    · simp [q]
  cases g : bb x c
  · refine bb_ext fun p _ => ?_
    rw [e, g]
    simp [bb_0]
  · refine bb_ext fun p _ => ?_
    rw [e, g]
    simp [bb_1]
def FW (l : Nat) (I J : tq_PI) : Prop := ∀ a j, (a ≠ 136 ∨ (j ≠ 28 ∧ j ≠ 29)) → a ≠ 141 → (a ≠ 147 ∨ j < l) → a ≠ 148 → (a ≠ 140 ∨ j < 48 * (l + 1)) → J a j = I a j
theorem FW.rf {l : Nat} {I : tq_PI} : FW l I I := fun _ _ _ _ _ _ _ => rfl
theorem FW.tr {l : Nat} {I J M : tq_PI} (h : FW l I J) (k : FW l J M) : FW l I M := fun a j q r s t u => (k a j q r s t u).trans (h a j q r s t u)
theorem FW.lo {l m : Nat} {I J : tq_PI} (h : FW m I J) (q : l ≤ m) : FW l I J := fun a j q1 r s t u => h a j q1 r (by omega) t (by omega)
theorem FC.fw {l : Nat} {I J : tq_PI} (h : FC 141 I J) : FW l I J := fun a j _ r _ _ _ => by rw [h a r]
theorem FG.fw {l : Nat} {I J : tq_PI} (h : FG (l + 1) I J) : FW l I J := fun a j _ _ _ _ u => h a j (by omega)
theorem FW.u7 {l : Nat} {I : tq_PI} {x : Int32} : FW l I (tq_up2 I 147 l x) := fun a j _ _ s _ _ => up_n _ _ (by omega)
theorem FW.fp {l : Nat} {I J : tq_PI} (F : FW l I J) : FP I J := fun a p => funext fun j => F a j (by unfold psl at p; omega) (by unfold psl at p; omega) (by unfold psl at p; omega) (by unfold psl at p; omega) (by unfold psl at p; omega)
theorem RW.fw {I J : tq_PI} {w h l : Nat} (R : RW I w h) (F : FW l I J) : RW J w h := ⟨by rw [F _ _ (by omega) (by omega) (by omega) (by omega) (by omega)]; exact R.1, by rw [F _ _ (by omega) (by omega) (by omega) (by omega) (by omega)]; exact R.2.1, R.2.2⟩
theorem GR.fw {I J : tq_PI} {w h l m : Nat} {K : Nat → Nat} (G : GR I w h m K) (k : wh w h) (F : FW l I J) (q : m ≤ l) : GR J w h m K := ⟨fun c hc => by have := wh_le k; rw [F _ _ (by omega) (by omega) (by omega) (by omega) (by omega)]; exact G.1 c hc, G.2⟩
def FM (l : Nat) (L M : tq_PL) : Prop := ∀ a j, (a ≠ 149 ∨ j < l) → M a j = L a j
theorem FM.rf {l : Nat} {L : tq_PL} : FM l L L := fun _ _ _ => rfl
theorem FM.tr {l : Nat} {L M N : tq_PL} (h : FM l L M) (k : FM l M N) : FM l L N := fun a j q => (k a j q).trans (h a j q)
theorem FM.lo {l m : Nat} {L M : tq_PL} (h : FM m L M) (q : l ≤ m) : FM l L M := fun a j r => h a j (by omega)
section RU
variable {w h : Nat} {M : Nat → Nat}
def SE (w h : Nat) (M : Nat → Nat) (s : Nat) (x : Int64) : Prop := ∀ c, c < w * h → bb x c = cut w h M s (pl w c)
theorem r_sees {J : tq_PI} {l s : Nat} (R : RW J w h) (G : GR J w h l M) (hl : l ≤ 3) (L : tq_PL) (hs : s < 2) : ∃ J2 L2, FX12_sees J L 136 (zI (l : Int)) (zI (s : Int)) = some (J2, L2) ∧ FC 141 J J2 ∧ FM l L L2 ∧ SE w h M s (L2 149 l) := by
  have k := R.2.2
  have h48 := wh_le k
  obtain ⟨J0, e0, F0, T0⟩ := r_reaches R G hl L hs
  have R0 := R.fc F0 (by omega)
  have G0 := G.fc F0 (by omega)
  obtain ⟨L2, e, h1, h2⟩ := it_for (f := fun p : Int32 × tq_PL => FX12_sees_s15 J0 p.2 136 (zI (l : Int)) (zI (s : Int)) p.1) (fun i (L1 : tq_PL) => (zI (i : Int), L1)) (w * h) (fun i L1 => FM l L L1 ∧ ∀ c, c < 64 → bb (L1 149 l) c = (decide (c < i) && cut w h M s (pl w c))) (Post := fun L1 => FM l L L1 ∧ ∀ c, c < 64 → bb (L1 149 l) c = (decide (c < w * h) && cut w h M s (pl w c))) (fun i L1 hi hL => by
    obtain ⟨F1, b1⟩ := hL
    have ec := r_isCut R0 G0 hl L1 hs T0 hi
    have hb : bb ((1 : Int64) <<< (Int32.toInt64 (zI (i : Int)) &&& 63)) = fun q => decide (q = i) := funext fun q => by rw [bb_one (by omega)]; simp
    unfold FX12_sees_s15 FX12_sees_j47L15
    simp (disch := omega) only [zlet, obind, zI_lit, zI_neg, zI_add, zI_sub, zI_mul, zI_div, zI_le, zI_lt, zI_eq, zI_cl, irem, ile_t, ile_f, ilt_t, ilt_f, ieq_t, ieq_f, and_true, true_and, and_false, false_and, and_self, not_true_eq_false, not_false_eq_true, ↓reduceIte, Int.toNat_natCast, tqb_z, tqb_t, tqb_f, r_many R0, ec, g30]
    cases q : cut w h M s (pl w i)
    · rw [if_pos rfl]
      refine Or.inl ⟨_, rfl, F1.tr (fun a j r => up_n _ _ (by omega)), fun c hc => ?_⟩
      rw [up_s, bb_or, bb_0, b1 c hc, Bool.or_false]
      by_cases g : c = i
      · rw [g, q]; simp
      · congr 1
        rw [decide_eq_decide]
        omega
    · rw [if_neg (by simp)]
      refine Or.inl ⟨_, rfl, F1.tr (fun a j r => up_n _ _ (by omega)), fun c hc => ?_⟩
      rw [up_s, bb_or, hb, b1 c hc]
      by_cases g : c = i
      · rw [g, q]; simp
      · have : decide (c < i + 1) = decide (c < i) := by rw [decide_eq_decide]; omega
        rw [this]
        simp [g]) (fun L1 hL => by
    unfold FX12_sees_s15
    simp (disch := omega) only [zlet, obind, zI_lit, zI_neg, zI_add, zI_sub, zI_mul, zI_div, zI_le, zI_lt, zI_eq, zI_cl, irem, ile_t, ile_f, ilt_t, ilt_f, ieq_t, ieq_f, and_true, true_and, and_false, false_and, and_self, not_true_eq_false, not_false_eq_true, ↓reduceIte, Int.toNat_natCast, tqb_z, tqb_t, tqb_f, r_many R0]
    exact ⟨_, rfl, hL⟩) 0 (tq_up2 L 149 l (0 : Int64)) (by omega) (by omega) ⟨fun a j r => up_n _ _ (by omega), fun c hc => by rw [up_s, bb_0]; simp⟩
  refine ⟨J0, L2, ?_, F0, h1, fun c hc => by rw [h2 c (by omega)]; simp [hc]⟩
  unfold FX12_sees
  rw [e0, obind, if_pos (by rw [show (0 : Int32) = zI 0 from rfl, show (4 : Int32) = zI 4 from rfl, zI_le (by omega) (by omega), zI_lt (by omega) (by omega)]; omega), g30, zI_cl (by omega), Int.toNat_natCast]
  exact (congrArg (fun o => Option.bind o _) e).trans (obind _ _)
theorem kst_safe {p : Nat} (h48 : ∀ q, sol M q = true → q < 48) (z : los h M p = 0) : kst h (kup M p 0) = kup M p 0 := funext fun q => by
  unfold kst
  rw [stl_self ((los_0 h48).1 z)]
  cases e : sol (kup M p 0) q
  · simp [sol] at e
    simp [e]
  · simp
theorem r_tries {J : tq_PI} {l s : Nat} {L : tq_PL} (R : RW J w h) (G : GR J w h l M) (hl : l ≤ 2) (E : SE w h M s (L 149 l)) {c : Nat} (hc : c < w * h) : ∃ J2, FX12_triesCut J L 136 (zI (l : Int)) (zI (c : Int)) = some (saf w h M s (pl w c), J2) ∧ FW l J J2 ∧ J2 136 = J 136 ∧ J2 148 = J 148 ∧ (saf w h M s (pl w c) = true → GR J2 w h (l + 1) (kup M (pl w c) 0) ∧ J2 147 l = zI (c : Int)) := by
  have k := R.2.2
  have h48 := wh_le k
  have sd : saf w h M s (pl w c) = (cut w h M s (pl w c) && decide (los h M (pl w c) = 0)) := rfl
  unfold FX12_triesCut
  rw [if_pos (by rw [show (0 : Int32) = zI 0 from rfl, show (4 : Int32) = zI 4 from rfl, zI_le (by omega) (by omega), zI_lt (by omega) (by omega)]; omega), g30, g26, zI_cl (by omega), Int.toNat_natCast, bb_sar (by omega), E c hc]
  cases q : cut w h M s (pl w c)
  · rw [if_pos (by rw [lgc]; simp)]
    refine ⟨J, ?_, FW.rf, rfl, rfl, fun g => ?_⟩
    · rw [sd, q]; rfl
    · rw [sd, q] at g; cases g
  · rw [if_neg (by rw [lgc]; simp)]
    obtain ⟨J1, e1, G1, F1⟩ := r_los R G hl L hc
    have l1 := los_le h M (pl w c)
    rw [e1, obind]
    dsimp only
    by_cases z : los h M (pl w c) = 0
    · rw [if_pos (by rw [zI_lit, zI_le (by omega) (by omega)]; omega), if_pos (by rw [show (0 : Int32) = zI 0 from rfl, show (3 : Int32) = zI 3 from rfl, zI_le (by omega) (by omega), zI_lt (by omega) (by omega)]; omega)]
      refine ⟨tq_up2 J1 147 l (zI (c : Int)), ?_, F1.fw.tr FW.u7, ?_, ?_, fun _ => ⟨?_, up_s _ _ _ _⟩⟩
      · rw [sd, q, z]; rfl
      · rw [tq_up2_ne (by omega)]; exact funext fun j => F1 136 j (by omega)
      · rw [tq_up2_ne (by omega)]; exact funext fun j => F1 148 j (by omega)
      · rw [kst_safe (fun q r => sol_48 k G r) z] at G1
        exact ⟨fun d hd => by rw [up_n _ _ (by omega)]; exact G1.1 d hd, G1.2⟩
    · rw [if_neg (by rw [zI_lit, zI_le (by omega) (by omega)]; omega)]
      refine ⟨J1, ?_, F1.fw, funext fun j => F1 136 j (by omega), funext fun j => F1 148 j (by omega), fun g => ?_⟩
      · rw [sd, q]; simp [z]; rfl
      · rw [sd, q] at g; simp [z] at g
def RR (w : Nat) (J : tq_PI) (r : Rec) : Prop := J 136 29 = zI (r.1 : Nat) ∧ J 136 28 = zI (r.2.1 : Nat) ∧ r.1 ≤ 1000 ∧ r.2.1 ≤ 3 ∧ ∀ k, k < r.2.1 → J 148 k = zI (cl w (r.2.2 k) : Nat)
def TR (w : Nat) (J : tq_PI) (ρ : Nat → Nat) (d : Nat) : Prop := ∀ k, k < d → J 147 k = zI (cl w (ρ k) : Nat)
theorem RR.eq {J J2 : tq_PI} {r : Rec} (Q : RR w J r) (e1 : J2 136 = J 136) (e2 : J2 148 = J 148) : RR w J2 r := by
  unfold RR
  rw [e1, e2]
  exact Q
theorem r_richer {J : tq_PI} {r : Rec} {ρ : Nat → Nat} {m W : Nat} (L : tq_PL) (Q : RR w J r) (T : TR w J ρ m) (hm : m ≤ 3) (hW : W ≤ 1000) : ∃ J2, FX12_isRicher J L 136 (zI (m : Int)) (zI (W : Int)) = some J2 ∧ RR w J2 (cmr r (W, m, ρ)) ∧ ∀ a j, (a ≠ 136 ∨ (j ≠ 28 ∧ j ≠ 29)) → a ≠ 148 → J2 a j = J a j := by
  obtain ⟨q1, q2, q3, q4, q5⟩ := Q
  unfold FX12_isRicher FX12_isRicher_j13 cmr
  rw [q1]
  by_cases g : r.1 < W
  · rw [if_neg (by rw [zI_le (by omega) (by omega)]; omega), if_pos g, if_neg (by decide)]
    obtain ⟨J2, e, F2, h2⟩ := it_for (f := fun p : Int32 × tq_PI => FX12_isRicher_s32 p.2 L 136 (zI (m : Int)) p.1) (fun i (J1 : tq_PI) => (zI (i : Int), J1)) m (fun i J1 => FC 148 (tq_up2 (tq_up2 J 136 29 (zI (W : Int))) 136 28 (zI (m : Int))) J1 ∧ ∀ k, k < i → J1 148 k = zI (cl w (ρ k) : Nat)) (Post := fun J1 => FC 148 (tq_up2 (tq_up2 J 136 29 (zI (W : Int))) 136 28 (zI (m : Int))) J1 ∧ ∀ k, k < m → J1 148 k = zI (cl w (ρ k) : Nat)) (fun i J1 hi hJ => by
      obtain ⟨F, hJ⟩ := hJ
      have h7 : J1 147 i = zI (cl w (ρ i) : Nat) := by rw [F 147 (by omega), tq_up2_ne (by omega), tq_up2_ne (by omega)]; exact T i hi
      unfold FX12_isRicher_s32
      simp (disch := omega) only [zlet, obind, zI_lit, zI_neg, zI_add, zI_sub, zI_mul, zI_div, zI_le, zI_lt, zI_eq, zI_cl, irem, ile_t, ile_f, ilt_t, ilt_f, ieq_t, ieq_f, and_true, true_and, and_false, false_and, and_self, not_true_eq_false, not_false_eq_true, ↓reduceIte, Int.toNat_natCast, tqb_z, tqb_t, tqb_f, g26, g27, h7]
      refine Or.inl ⟨_, rfl, F.tr FC.up, fun k hk => ?_⟩
      by_cases q : k = i
      · rw [q, up_s]
      · rw [up_n _ _ (Or.inr q)]; exact hJ k (by omega)) (fun J1 hJ => by
      unfold FX12_isRicher_s32
      simp (disch := omega) only [zlet, obind, zI_lit, zI_neg, zI_add, zI_sub, zI_mul, zI_div, zI_le, zI_lt, zI_eq, zI_cl, irem, ile_t, ile_f, ilt_t, ilt_f, ieq_t, ieq_f, and_true, true_and, and_false, false_and, and_self, not_true_eq_false, not_false_eq_true, ↓reduceIte, Int.toNat_natCast, tqb_z, tqb_t, tqb_f]
      exact ⟨_, rfl, hJ⟩) 0 _ (by omega) (by omega) ⟨FC.rf, fun k hk => absurd hk (Nat.not_lt_zero k)⟩
    refine ⟨J2, (congrArg (fun o => Option.bind o _) e).trans (obind _ _), ⟨?_, ?_, hW, hm, h2⟩, fun a j r1 r2 => ?_⟩
    · rw [F2 136 (by omega), up_n _ _ (by omega), up_s]
    · rw [F2 136 (by omega), up_s]
    · rw [F2 a r2, up_n _ _ (by omega), up_n _ _ (by omega)]
  · rw [if_pos (by rw [zI_le (by omega) (by omega)]; omega), if_neg g, if_pos rfl]
    exact ⟨J, rfl, ⟨q1, q2, q3, q4, q5⟩, fun _ _ _ _ => rfl⟩
end RU
