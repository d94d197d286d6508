/-! DUEL: the class's first turn; the reference's last turn, what a cut brings. -/
def fd (w h : Nat) (K : Nat → Nat) (n q : Nat) : Int := if q < 48 then (if cut w h K 0 q then (wor (K q) : Int) - gn w h (n - 1) (kst h (kup K q 0)) 1 + 999 else -1) else if q = 48 then -(gn w h (n - 1) K 1) + 999 else -1
theorem fd_rg (w h : Nat) (K : Nat → Nat) (n q : Nat) : -1 ≤ fd w h K n q ∧ fd w h K n q ≤ 1100 := by
  have a := gn_rg w h (n - 1) (kst h (kup K q 0)) 1
  have b := gn_rg w h (n - 1) K 1
  have c := wor_le (K q)
  unfold fd
  split
  · split <;> omega
  · split <;> omega
def XD (i q r : Nat) : Prop := r = 0 ∧ q < i
def cd (w h q : Nat) : Nat := if q = 48 then w * h else cl w q
section DF
variable {I : tq_PI} {L : tq_PL} {a w h : Nat} {K : Nat → Nat}
theorem c_count (H : HC I L a w h K) : FX3_cellCount I L a = zI ((w * h : Nat) : Int) := by
  unfold FX3_cellCount
  rw [H.1, H.2.1, zI_mul]
  rfl
theorem c_fight (H : HC I L a w h K) (ha : a ≠ 45) {n : Nat} (hn : 1 ≤ n ∧ n ≤ 3) : ∃ I2 v q, FX5_fight I L 45 a (zI (n : Int)) = some I2 ∧ FC 45 I I2 ∧ PI (fun q _ => fd w h K n q) (XD 49) v q 0 ∧ (-1 ≤ v ∧ v ≤ 1100) ∧ I2 45 4 = zI (v - 999) ∧ (0 ≤ v → I2 45 5 = zI (cd w h q : Nat)) := by
  have k := H.k
  have Fa : FC 45 I (tq_up2 I 45 4 (0 : Int32)) := FC.up
  have ec := c_count (H.fi Fa ha)
  obtain ⟨Ib, hIb⟩ : ∃ Ib, Ib = tq_up2 (tq_up2 I 45 4 (0 : Int32)) 45 5 (zI ((w * h : Nat) : Int)) := ⟨_, rfl⟩
  have Fb : FC 45 I Ib := by rw [hIb]; exact FC.up.tr FC.up
  have Hb := H.fi Fb ha
  obtain ⟨y, ey, hy⟩ := c_cut Hb (s := 0) (by omega) (c_sol Hb) (sb_rf K) H.z
  have ey' : FX3_cuttable Ib L a (0 : Int32) (FX3_solid Ib L a) = some y := ey
  have hxs := c_sol Hb
  obtain ⟨x, hxe⟩ : ∃ x, x = FX3_solid Ib L a := ⟨_, rfl⟩
  rw [← hxe] at hxs ey'
  have lt : ltd K K := fun p => Or.inl rfl
  have n1 : zI (n : Int) - (1 : Int32) = zI ((n - 1 : Nat) : Int) := by rw [zI_lit, zI_sub]; congr 1; omega
  unfold FX5_fight
  rw [zlet, ec, ← hIb, if_pos (by rw [zI_lit, zI_le (by omega) (by omega)]; omega), zlet, ← hxe]
  obtain ⟨I3, e, F3, v, q, P3, v1, v2, v3⟩ := it_for (f := fun p : Int32 × tq_PI => FX5_fight_s42 p.2 L 45 a (zI (n : Int)) x y p.1) (fun i (I1 : tq_PI) => (zI (i : Int), I1)) 48 (fun i I1 => FC 45 I I1 ∧ ∃ v q, PI (fun q _ => fd w h K n q) (XD i) v q 0 ∧ (-1 ≤ v ∧ v ≤ 1100) ∧ I1 45 4 = zI (v - 999) ∧ (0 ≤ v → I1 45 5 = zI (cd w h q : Nat))) (Post := fun I1 => FC 45 I I1 ∧ ∃ v q, PI (fun q _ => fd w h K n q) (XD 48) v q 0 ∧ (-1 ≤ v ∧ v ≤ 1100) ∧ I1 45 4 = zI (v - 999) ∧ (0 ≤ v → I1 45 5 = zI (cd w h q : Nat))) (fun i I1 hi hI => by
    obtain ⟨F1, v, q, P1, v1, v2, v3⟩ := hI
    have H1 := H.fi F1 ha
    have hb : bb ((1 : Int64) <<< (Int32.toInt64 (zI (i : Int)) &&& 63)) = fun q => decide (q = i) := funext fun q => by rw [bb_one (by omega)]; simp
    unfold FX5_fight_s42 FX5_fight_j119L42
    simp (disch := omega) only [zlet, obind, zI_lit, zI_neg, zI_add, zI_sub, zI_mul, zI_div, zI_le, zI_lt, zI_eq, zI_cl, irem, ile_t, ile_f, ilt_t, ilt_f, ieq_t, ieq_f, and_true, true_and, and_false, false_and, and_self, not_true_eq_false, not_false_eq_true, ↓reduceIte, Int.toNat_natCast, tqb_z, tqb_t, tqb_f, lgz, bb_hit hb, hy]
    cases ep : cut w h K 0 i
    · rw [if_pos rfl]
      refine Or.inl ⟨I1, rfl, F1, v, q, P1.same (fun a b x => ?_) (fun a b x => ?_), v1, v2, v3⟩
      · unfold XD at *; omega
      · by_cases g : a = i
        · right; unfold fd; rw [g, if_pos hi, ep]; simp
        · left; unfold XD at *; omega
    · rw [if_neg (by simp)]
      have hyb := bb_and_one (x := y) hb (by rw [hy]; exact ep)
      obtain ⟨x2, e2, hx2, _⟩ := c_fall H1 (bb_wo hxs hyb) (kup_z H.z (Or.inl rfl))
      have e3 := c_gain H1 (t := n - 1) (s := 1) (f := tq_n20) (by rw [tq_n20_eq]; omega) (by omega) (by omega) hx2 (ltd_up lt h i)
      have e3' : FX5_gainOf tq_n20 I1 L a (zI 1) x2 (zI ((n : Int) - 1)) = some (zI (gn w h (n - 1) (kst h (kup K i 0)) 1)) := by
        rw [show ((n : Int) - 1) = ((n - 1 : Nat) : Int) by omega]; exact e3
      have w4 := wor_le (K i)
      have r2 := gn_rg w h (n - 1) (kst h (kup K i 0)) 1
      have fe : fd w h K n i = (wor (K i) : Int) - gn w h (n - 1) (kst h (kup K i 0)) 1 + 999 := by unfold fd; rw [if_pos hi, ep, if_pos rfl]
      rw [c_worth H1, hyb, ws_one _ _ (by omega), e2, obind, e3', obind, zI_sub]
      have A := PI.add (s := i) (t := 0) (Y := XD (i + 1)) (fun a b => (fd_rg w h K n a).1) P1 (fun a b x => by unfold XD lx at *; omega) (fun a b x => by unfold XD at *; omega) (fun a b x => by unfold XD at *; omega) (by unfold XD; omega)
      by_cases g : v < fd w h K n i
      · rw [if_pos g] at A
        have en := c_num (I := tq_up2 I1 45 4 (zI ((wor (K i) : Int) - gn w h (n - 1) (kst h (kup K i 0)) 1))) (L := L) (a := a) (w := w) (by rw [tq_up2_ne ha]; exact H1.1) k.2.1 (m := i) (by omega) hyb
        rw [if_neg (by rw [v2, zI_le (by omega) (by omega)]; omega), en, obind]
        refine Or.inl ⟨_, rfl, F1.tr (FC.up.tr FC.up), _, i, A, by omega, ?_, fun _ => ?_⟩
        · rw [up_n _ _ (by omega), up_s, fe]
          congr 1
          omega
        · rw [up_s]
          unfold cd
          rw [if_neg (by omega)]
      · rw [if_neg g] at A
        rw [if_pos (by rw [v2, zI_le (by omega) (by omega)]; omega)]
        exact Or.inl ⟨I1, rfl, F1, v, q, A, v1, v2, v3⟩) (fun I1 hI => by
    unfold FX5_fight_s42
    simp (disch := omega) only [zlet, obind, zI_lit, zI_neg, zI_add, zI_sub, zI_mul, zI_div, zI_le, zI_lt, zI_eq, zI_cl, irem, ile_t, ile_f, ilt_t, ilt_f, ieq_t, ieq_f, and_true, true_and, and_false, false_and, and_self, not_true_eq_false, not_false_eq_true, ↓reduceIte, Int.toNat_natCast, tqb_z, tqb_t, tqb_f]
    exact ⟨_, rfl, hI⟩) 0 (tq_up2 Ib 45 4 (-1000 : Int32)) (by omega) (by omega) ⟨Fb.tr FC.up, -1, 0, Or.inl ⟨rfl, fun s t x => by unfold XD at x; omega⟩, by omega, by rw [up_s]; rfl, by omega⟩
  have e' : tq_it (fun p : Int32 × tq_PI => FX5_fight_s42 p.2 L 45 a (zI (n : Int)) x y p.1) tq_N ((0 : Int32), (tq_up2 Ib 45 4 (-1000 : Int32))) = some I3 := e
  have H3 := H.fi F3 ha
  have e4 := c_gain H3 (t := n - 1) (s := 1) (f := tq_n20) (by rw [tq_n20_eq]; omega) (by omega) (by omega) hxs lt
  have r2 := gn_rg w h (n - 1) K 1
  have fe : fd w h K n 48 = -(gn w h (n - 1) K 1) + 999 := by unfold fd; rw [if_neg (by omega), if_pos rfl]
  have A := PI.add (s := 48) (t := 0) (Y := XD 49) (fun a b => (fd_rg w h K n a).1) P3 (fun a b x => by unfold XD lx at *; omega) (fun a b x => by unfold XD at *; omega) (fun a b x => by unfold XD at *; omega) (by unfold XD; omega)
  have e4' : FX5_gainOf tq_n20 I3 L a (1 : Int32) x (zI (n : Int) - 1) = some (zI (gn w h (n - 1) K 1)) := by rw [n1]; exact e4
  rw [ey', obind, e', obind, e4', obind, zI_neg]
  by_cases g : v < fd w h K n 48
  · rw [if_pos g] at A
    have ec2 := c_count (H3.fi (FC.up (b := 45) (j := 4) (x := zI (-gn w h (n - 1) K 1))) ha)
    rw [if_neg (by rw [v2, zI_le (by omega) (by omega)]; omega), zlet, ec2]
    refine ⟨_, _, 48, rfl, F3.tr (FC.up.tr FC.up), A, by omega, ?_, fun _ => ?_⟩
    · rw [up_n _ _ (by omega), up_s, fe]
      congr 1
      omega
    · rw [up_s]
      rfl
  · rw [if_neg g] at A
    rw [if_pos (by rw [v2, zI_le (by omega) (by omega)]; omega)]
    exact ⟨I3, v, q, rfl, F3, A, v1, v2, v3⟩
end DF
section DR
variable {w h : Nat} {M : Nat → Nat}
theorem r_last {J : tq_PI} {l s : Nat} (R : RW J w h) (G : GR J w h l M) (hl : l ≤ 3) (L : tq_PL) (hs : s < 2) : ∃ J2 L2, FX12_lastTurn J L 136 (zI (l : Int)) (zI (s : Int)) = some (zI (if s = 0 then g1 w h M s else -(g1 w h M s)), J2, L2) ∧ FC 141 J J2 ∧ FM l L L2 := by
  have k := R.2.2
  have h48 := wh_le k
  obtain ⟨J0, L0, e0, F0, N0, E⟩ := r_sees R G hl L hs
  have R0 := R.fc F0 (by omega)
  have G0 := G.fc F0 (by omega)
  have rg : ∀ i, 0 ≤ fop (fun t i => mxf (fun p => (wor (M p) : Int)) t (pl w i)) (fun i => cut w h M s (pl w i)) i 0 ∧ fop (fun t i => mxf (fun p => (wor (M p) : Int)) t (pl w i)) (fun i => cut w h M s (pl w i)) i 0 ≤ 4 := fun i => by
    obtain ⟨h1, h2, h3⟩ := mx_char (g := fun c => (wor (M (pl w c)) : Int)) (P := fun c => cut w h M s (pl w c)) (x := 0) i
    have e : fop (fun t i => mxf (fun p => (wor (M p) : Int)) t (pl w i)) (fun i => cut w h M s (pl w i)) i 0 = fop (mxf (fun c => (wor (M (pl w c)) : Int))) (fun c => cut w h M s (pl w c)) i 0 := rfl
    rw [e]
    refine ⟨h1, ?_⟩
    rcases h3 with h3 | ⟨p, _, _, c⟩
    · omega
    · have := wor_le (M (pl w p)); omega
  obtain ⟨v, ev, hv⟩ := it_for (f := fun p : Int32 × Int32 => FX12_lastTurn_s11 J0 L0 136 (zI (l : Int)) (zI (s : Int)) p.1 p.2) (fun i (v : Int32) => (v, zI (i : Int))) (w * h) (fun i v => v = zI (fop (fun t i => mxf (fun p => (wor (M p) : Int)) t (pl w i)) (fun i => cut w h M s (pl w i)) i 0)) (Post := fun v => v = zI (fop (fun t i => mxf (fun p => (wor (M p) : Int)) t (pl w i)) (fun i => cut w h M s (pl w i)) (w * h) 0)) (fun i v hi hv => by
    subst hv
    have r := rg i
    have ek := r_kind k G0 hl L0 (z := (i : Int)) (by omega)
    have w4 := wor_le (M (pl w i))
    unfold FX12_lastTurn_s11 FX12_lastTurn_j50L11 FX12_lastTurn_j64L11
    simp (disch := omega) only [zlet, obind, zI_lit, zI_neg, zI_add, zI_sub, zI_mul, zI_div, zI_le, zI_lt, zI_eq, zI_cl, irem, ile_t, ile_f, ilt_t, ilt_f, ieq_t, ieq_f, and_true, true_and, and_false, false_and, and_self, not_true_eq_false, not_false_eq_true, ↓reduceIte, Int.toNat_natCast, tqb_z, tqb_t, tqb_f, r_many R0, g30, ek, r_worth _ _ (G.2.1 _)]
    rw [bb_sar (by omega), E i hi, fop_s]
    generalize fop (fun t i => mxf (fun p => (wor (M p) : Int)) t (pl w i)) (fun i => cut w h M s (pl w i)) i 0 = X at *
    refine Or.inl ⟨_, ?_, rfl⟩
    cases q : cut w h M s (pl w i)
    · rw [if_neg (by rw [lgz]; simp)]
      rfl
    · rw [if_pos (by rw [lgz]; simp)]
      simp only [if_true]
      unfold mxf
      by_cases g : X < (wor (M (pl w i)) : Int)
      · rw [if_neg (by omega), if_pos g]
        rfl
      · rw [if_pos (by omega), if_neg g]
        rfl) (fun v hv => by
    unfold FX12_lastTurn_s11
    simp (disch := omega) only [zlet, obind, zI_lit, zI_neg, zI_add, zI_sub, zI_mul, zI_div, zI_le, zI_lt, zI_eq, zI_cl, irem, ile_t, ile_f, ilt_t, ilt_f, ieq_t, ieq_f, and_true, true_and, and_false, false_and, and_self, not_true_eq_false, not_false_eq_true, ↓reduceIte, Int.toNat_natCast, tqb_z, tqb_t, tqb_f, r_many R0]
    exact ⟨_, rfl, hv⟩) 0 (zI 0) (by omega) (by omega) rfl
  refine ⟨J0, L0, ?_, F0, N0⟩
  unfold FX12_lastTurn
  rw [e0, obind]
  refine (congrArg (fun o => Option.bind o _) ev).trans ((obind _ _).trans ?_)
  rw [hv, fop_all k (mxf (fun p => (wor (M p) : Int))) (cut w h M s) (fun p q => cut_ar G.2.2 q)]
  rcases (by omega : s = 0 ∨ s = 1) with rfl | rfl
  · rw [if_pos (by decide)]
    rfl
  · rw [if_neg (by decide), zI_neg]
    rfl
def kb (h : Nat) (M : Nat → Nat) (q : Nat) : Nat → Nat := if q = 48 then M else kst h (kup M q 0)
def wb (M : Nat → Nat) (q : Nat) : Int := if q = 48 then 0 else (wor (M q) : Int)
def plx (w h c : Nat) : Nat := if c = w * h then 48 else pl w c
theorem r_brings {J : tq_PI} {l s c : Nat} (R : RW J w h) (G : GR J w h l M) (hl : l ≤ 2) (L : tq_PL) (hs : s < 2) (hc : c ≤ w * h) : ∃ J2, FX12_brings J L 136 (zI (l : Int)) (zI (s : Int)) (zI (c : Int)) = some (zI (if s = 0 then wb M (plx w h c) else -(wb M (plx w h c))), J2) ∧ FG (l + 1) J J2 ∧ GR J2 w h (l + 1) (kb h M (plx w h c)) := by
  have k := R.2.2
  have h48 := wh_le k
  unfold FX12_brings
  rw [zlet, r_many R]
  unfold plx
  by_cases q : c = w * h
  · rw [if_pos (by rw [q]), if_pos q]
    obtain ⟨J2, e, h1, h2⟩ := it_for (f := fun p : Int32 × tq_PI => FX12_brings_s11 p.2 L 136 (zI (l : Int)) p.1) (fun i J => (zI (i : Int), J)) 48 (fun i J2 => FG (l + 1) J J2 ∧ ∀ d, d < i → J2 140 (48 * (l + 1) + d) = J 140 (48 * l + d)) (Post := fun J2 => FG (l + 1) J J2 ∧ ∀ d, d < 48 → J2 140 (48 * (l + 1) + d) = J 140 (48 * l + d)) (fun i J1 hi hs => by
      unfold FX12_brings_s11
      simp (disch := omega) only [zlet, obind, zI_lit, zI_neg, zI_add, zI_sub, zI_mul, zI_div, zI_le, zI_lt, zI_eq, zI_cl, irem, ile_t, ile_f, ilt_t, ilt_f, ieq_t, ieq_f, and_true, true_and, and_false, false_and, and_self, not_true_eq_false, not_false_eq_true, ↓reduceIte, Int.toNat_natCast, tqb_z, tqb_t, tqb_f, g15]
      rw [show ((48 : Int) * l + 48 + i).toNat = 48 * (l + 1) + i by omega, show ((48 : Int) * l + i).toNat = 48 * l + i by omega]
      refine Or.inl ⟨_, rfl, hs.1.tr (FG.up (by omega)), fun d hd => ?_⟩
      by_cases q : d = i
      · rw [q, up_s, hs.1 _ _ (Or.inr (by omega))]
      · rw [up_n _ _ (Or.inr (by omega))]
        exact hs.2 d (by omega)) (fun J1 hs => by
      unfold FX12_brings_s11
      simp (disch := omega) only [zlet, obind, zI_lit, zI_neg, zI_add, zI_sub, zI_mul, zI_div, zI_le, zI_lt, zI_eq, zI_cl, irem, ile_t, ile_f, ilt_t, ilt_f, ieq_t, ieq_f, and_true, true_and, and_false, false_and, and_self, not_true_eq_false, not_false_eq_true, ↓reduceIte, Int.toNat_natCast, tqb_z, tqb_t, tqb_f]
      exact ⟨_, rfl, hs⟩) 0 J (by omega) (by omega) ⟨FG.rf, fun d hd => absurd hd (Nat.not_lt_zero d)⟩
    refine ⟨J2, ?_, h1, ?_⟩
    · refine (congrArg (fun o => Option.bind o _) e).trans ((obind _ _).trans ?_)
      unfold wb
      rw [if_pos rfl]
      congr 2
      split <;> rfl
    · unfold kb
      rw [if_pos rfl]
      exact ⟨fun d hd => by rw [h2 d (by omega)]; exact G.1 d hd, G.2⟩
  · have hc2 : c < w * h := by omega
    have p48 := pl_48 k hc2
    rw [if_neg (by rw [zI_eq (by omega) (by omega)]; omega), if_neg q]
    obtain ⟨n, J2, e, G2, F2, _⟩ := r_taken R G hl L hc2
    have ek := r_kind k G (by omega) L (z := (c : Int)) (by omega)
    have ek' : FX12_kindOf J L 136 (zI (l : Int)) (zI (c : Int)) = some (zI (M (pl w c) : Nat)) := ek
    refine ⟨J2, ?_, F2, ?_⟩
    · have hw : wb M (pl w c) = (wor (M (pl w c)) : Int) := by unfold wb; rw [if_neg (by omega)]
      rw [ek', obind, zlet, r_worth _ _ (G.2.1 _), e, obind, hw]
      rcases (by omega : s = 0 ∨ s = 1) with rfl | rfl
      · rw [if_pos (by decide)]
        rfl
      · rw [if_neg (by decide), zI_neg]
        rfl
    · unfold kb
      rw [if_neg (by omega)]
      exact G2
end DR
