/-! QUERIES: crest, border. -/
theorem mask_all : ∀ c : Nat, c < 9 → ∀ r : Nat, r < 6 → ∀ p : Nat, p < 64 → bb ((((1 : Int64) <<< (Int32.toInt64 (zI (c : Int)) &&& 63)) - (1 : Int64)) <<< (Int32.toInt64 (zI (8 * (r : Int))) &&& 63)) p = (decide (p / 8 = r) && decide (p % 8 < c)) := by decide +kernel
theorem mask_bb {c r : Nat} (hc : c < 9) (hr : r < 6) : bb ((((1 : Int64) <<< (Int32.toInt64 (zI (c : Int)) &&& 63)) - (1 : Int64)) <<< (Int32.toInt64 (zI (8 * (r : Int))) &&& 63)) = fun p => decide (p / 8 = r) && decide (p % 8 < c) := funext fun p => by
  by_cases q : p < 64
  · exact mask_all c hc r hr p q
  · rw [bb_big (by omega)]
    have : ¬ p / 8 = r := by omega
    simp [this]
theorem sm_row (f : Nat → Nat) {y w : Nat} (hy : y < 8) (hw : w ≤ 8) (z : ∀ p, ¬ (p / 8 = y ∧ p % 8 < w) → f p = 0) : fb_sm f 64 = fb_sm (fun x => f (8 * y + x)) w := by
  rw [sm_gap (f := f) (a := 8 * y + w) (b := 64) (by omega) (fun p h1 h2 => z p (by omega)), fb_sm_split]
  have : fb_sm f (8 * y) = 0 := by
    rw [sm_gap (f := f) (a := 0) (b := 8 * y) (by omega) (fun p h1 h2 => z p (by omega))]
    rfl
  omega
def argm (f : Nat → Nat) : Nat → Nat
  | 0 => 0
  | n + 1 => if f (argm f n) < f (n + 1) then n + 1 else argm f n
theorem argm_s (f : Nat → Nat) (n : Nat) : argm f (n + 1) = if f (argm f n) < f (n + 1) then n + 1 else argm f n := rfl
theorem argm_le (f : Nat → Nat) : ∀ n, argm f n ≤ n
  | 0 => Nat.le_refl _
  | n + 1 => by have := argm_le f n; unfold argm; split <;> omega
def argl (f : Nat → Nat) : Nat → Nat
  | 0 => 0
  | n + 1 => if f (n + 1) < f (argl f n) then n + 1 else argl f n
theorem argl_s (f : Nat → Nat) (n : Nat) : argl f (n + 1) = if f (n + 1) < f (argl f n) then n + 1 else argl f n := rfl
theorem argl_le (f : Nat → Nat) : ∀ n, argl f n ≤ n
  | 0 => Nat.le_refl _
  | n + 1 => by have := argl_le f n; unfold argl; split <;> omega
def rwo (w : Nat) (K : Nat → Nat) (y : Nat) : Nat := ws wor K (fun p => decide (p / 8 = y) && decide (p % 8 < w))
theorem rwo_le (w : Nat) (K : Nat → Nat) (y : Nat) : rwo w K y ≤ 256 := ws_le K _ wor_le
section QD
variable {I : tq_PI} {L : tq_PL} {a w h : Nat} {K : Nat → Nat}
theorem c_row (H : HC I L a w h K) {y : Nat} (hy : y < h) : FX3_worthOf I L a (FX3_rowMask I L a (zI (y : Int))) = zI (rwo w K y : Nat) := by
  have h6 := H.k.2.2.2
  have h8 := H.k.2.1
  rw [c_worth H]
  congr 2
  unfold rwo FX3_rowMask FX3_rowMask_j10
  simp (disch := omega) only [zlet, obind, zI_lit, zI_neg, zI_add, zI_sub, zI_mul, zI_div, zI_le, zI_lt, zI_eq, zI_cl, irem, ile_t, ile_f, ilt_t, ilt_f, ieq_t, ieq_f, and_true, true_and, and_false, false_and, and_self, not_true_eq_false, not_false_eq_true, ↓reduceIte, Int.toNat_natCast, tqb_z, tqb_t, tqb_f, H.1]
  have e : (1 : Int64) - 0 = 1 := by decide
  rw [mask_bb (c := w) (by omega) (by omega)]
theorem c_crest (H : HC I L a w h K) : FX3_richestRow I L a = some (zI (argm (rwo w K) (h - 1) : Nat)) := by
  have h2 := H.k.2.2.1
  have h6 := H.k.2.2.2
  obtain ⟨x, e, hx⟩ := it_for (f := fun p : Int32 × Int32 => FX3_richestRow_s4 I L a p.1 p.2) (fun i (x : Int32) => (x, zI (i : Int))) h (fun i x => x = zI (argm (rwo w K) (i - 1) : Nat) ∧ 1 ≤ i) (Post := fun x => x = zI (argm (rwo w K) (h - 1) : Nat)) (fun i x hi hx => by
    obtain ⟨rfl, h1⟩ := hx
    obtain ⟨j, rfl⟩ : ∃ j, i = j + 1 := ⟨i - 1, by omega⟩
    rw [show j + 1 - 1 = j by omega]
    have l0 := argm_le (rwo w K) j
    have l1 := rwo_le w K (j + 1)
    have l2 := rwo_le w K (argm (rwo w K) j)
    unfold FX3_richestRow_s4 FX3_richestRow_j35L4
    rw [H.2.1]
    simp (disch := omega) only [zlet, c_row H hi, c_row H (y := argm (rwo w K) j) (by omega), zI_le]
    rw [if_neg (by omega)]
    refine Or.inl ⟨zI (argm (rwo w K) (j + 1) : Nat), ?_, by rw [show j + 1 + 1 - 1 = j + 1 by omega], by omega⟩
    rw [argm_s]
    by_cases q : rwo w K (argm (rwo w K) j) < rwo w K (j + 1)
    · rw [if_neg (by omega), if_pos q]
      simp only [zI_lit, zI_add]; rfl
    · rw [if_pos (by omega), if_neg q]
      simp only [zI_lit, zI_add]; rfl) (fun x hx => by
    unfold FX3_richestRow_s4
    rw [H.2.1]
    simp (disch := omega) only [zlet, obind, zI_lit, zI_neg, zI_add, zI_sub, zI_mul, zI_div, zI_le, zI_lt, zI_eq, zI_cl, irem, ile_t, ile_f, ilt_t, ilt_f, ieq_t, ieq_f, and_true, true_and, and_false, false_and, and_self, not_true_eq_false, not_false_eq_true, ↓reduceIte, Int.toNat_natCast, tqb_z, tqb_t, tqb_f]
    exact ⟨_, rfl, hx.1⟩) 1 (zI ((0 : Nat) : Int)) (by omega) (by omega) ⟨rfl, by omega⟩
  unfold FX3_richestRow
  refine (congrArg (fun o => Option.bind o _) e).trans ((obind _ _).trans ?_)
  rw [hx]
theorem r_row {J : tq_PI} (R : RW J w h) (G : GR J w h 0 K) (M : tq_PL) {y : Nat} (hy : y < h) : FX12_rowWorth J M 136 (zI (y : Int)) = some (zI (rwo w K y : Nat)) := by
  have k := R.2.2
  have h48 := wh_le k
  have h8 := k.2.1
  have h6 := k.2.2.2
  have hidx : ∀ x, x < w → w * y + x < w * h ∧ pl w (w * y + x) = 8 * y + x := fun x hx => by
    have a : ar w h (8 * y + x) = true := by rw [ar_iff]; omega
    have e : cl w (8 * y + x) = w * y + x := by
      unfold cl
      rw [show (8 * y + x) / 8 = y by omega, show (8 * y + x) % 8 = x by omega]
    exact ⟨by rw [← e]; exact cl_lt k a, by rw [← e]; exact pl_cl k a⟩
  have hb : ∀ n, n ≤ w → fb_sm (fun x => wor (K (8 * y + x))) n ≤ 256 := fun n hn => by
    have := fb_sm_le (f := fun x => wor (K (8 * y + x))) (g := fun _ => 4) (n := n) (fun i _ => wor_le _)
    rw [fb_sm_const] at this
    omega
  obtain ⟨x, e, hx⟩ := it_for (f := fun p : Int32 × Int32 => FX12_rowWorth_s4 J M 136 (zI (y : Int)) p.1 p.2) (fun i (x : Int32) => (x, zI (i : Int))) w (fun i x => x = zI (fb_sm (fun x => wor (K (8 * y + x))) i : Nat)) (Post := fun x => x = zI (fb_sm (fun x => wor (K (8 * y + x))) w : Nat)) (fun i x hi hx => by
    subst hx
    obtain ⟨i1, i2⟩ := hidx i hi
    have := hb i (by omega)
    have kd := r_kind k G (by omega) M (z := ((w * y + i : Nat) : Int)) (by omega)
    rw [Int.toNat_natCast, i2] at kd
    have kd' : FX12_kindOf J M 136 (zI 0) (zI ((w : Int) * (y : Int) + (i : Int))) = some (zI (K (8 * y + i) : Nat)) := by
      have e : ((w : Int) * (y : Int) + (i : Int)) = ((w * y + i : Nat) : Int) := by simp
      rw [e]; exact kd
    unfold FX12_rowWorth_s4
    rw [R.1]
    simp (disch := omega) only [zlet, obind, zI_lit, zI_mul, zI_add, zI_le, kd', r_worth _ _ (G.2.1 _)]
    rw [if_neg (by omega)]
    exact Or.inl ⟨_, rfl, by rw [fb_sm_succ]; rfl⟩) (fun x hx => by
    unfold FX12_rowWorth_s4
    rw [R.1]
    simp (disch := omega) only [zlet, obind, zI_lit, zI_neg, zI_add, zI_sub, zI_mul, zI_div, zI_le, zI_lt, zI_eq, zI_cl, irem, ile_t, ile_f, ilt_t, ilt_f, ieq_t, ieq_f, and_true, true_and, and_false, false_and, and_self, not_true_eq_false, not_false_eq_true, ↓reduceIte, Int.toNat_natCast, tqb_z, tqb_t, tqb_f]
    exact ⟨_, rfl, hx⟩) 0 (zI ((0 : Nat) : Int)) (by omega) (by omega) rfl
  unfold FX12_rowWorth
  refine (congrArg (fun o => Option.bind o _) e).trans ((obind _ _).trans ?_)
  rw [hx]
  congr 3
  unfold rwo ws
  rw [sm_row (y := y) (w := w) _ (by omega) h8 (fun p hp => by
    have : (decide (p / 8 = y) && decide (p % 8 < w)) = false := by
      cases e : (decide (p / 8 = y) && decide (p % 8 < w))
      · rfl
      · simp only [Bool.and_eq_true, decide_eq_true_eq] at e; exact absurd e hp
    simp [this])]
  refine fb_sm_cong fun x hx => ?_
  have e1 : (8 * y + x) / 8 = y := by omega
  have e2 : (8 * y + x) % 8 < w := by omega
  simp only [e1, e2, decide_true, Bool.and_self, if_true]
theorem r_crest {J : tq_PI} (R : RW J w h) (G : GR J w h 0 K) (M : tq_PL) (u : Int32) : tq_it (fun p : Int32 × Int32 => FX12_crest_s19 J M 136 u p.1 p.2) tq_N (zI ((0 : Nat) : Int), zI ((1 : Nat) : Int)) = some (zI (argm (rwo w K) (h - 1) : Nat)) := by
  have h2 := R.2.2.2.2.1
  have h6 := R.2.2.2.2.2
  obtain ⟨x, e, hx⟩ := it_for (f := fun p : Int32 × Int32 => FX12_crest_s19 J M 136 u p.1 p.2) (fun i (x : Int32) => (x, zI (i : Int))) h (fun i x => x = zI (argm (rwo w K) (i - 1) : Nat) ∧ 1 ≤ i) (Post := fun x => x = zI (argm (rwo w K) (h - 1) : Nat)) (fun i x hi hx => by
    obtain ⟨rfl, h1⟩ := hx
    obtain ⟨j, rfl⟩ : ∃ j, i = j + 1 := ⟨i - 1, by omega⟩
    rw [show j + 1 - 1 = j by omega]
    have l0 := argm_le (rwo w K) j
    have l1 := rwo_le w K (j + 1)
    have l2 := rwo_le w K (argm (rwo w K) j)
    unfold FX12_crest_s19 FX12_crest_j48L19
    rw [R.2.1, r_row R G M hi, r_row R G M (y := argm (rwo w K) j) (by omega)]
    simp (disch := omega) only [obind, zI_le]
    rw [if_neg (by omega)]
    refine Or.inl ⟨zI (argm (rwo w K) (j + 1) : Nat), ?_, by rw [show j + 1 + 1 - 1 = j + 1 by omega], by omega⟩
    rw [argm_s]
    by_cases q : rwo w K (argm (rwo w K) j) < rwo w K (j + 1)
    · rw [if_neg (by omega), if_pos q]
      simp only [zI_lit, zI_add]; rfl
    · rw [if_pos (by omega), if_neg q]
      simp only [zI_lit, zI_add]; rfl) (fun x hx => by
    unfold FX12_crest_s19
    rw [R.2.1]
    simp (disch := omega) only [zlet, obind, zI_lit, zI_neg, zI_add, zI_sub, zI_mul, zI_div, zI_le, zI_lt, zI_eq, zI_cl, irem, ile_t, ile_f, ilt_t, ilt_f, ieq_t, ieq_f, and_true, true_and, and_false, false_and, and_self, not_true_eq_false, not_false_eq_true, ↓reduceIte, Int.toNat_natCast, tqb_z, tqb_t, tqb_f]
    exact ⟨_, rfl, hx.1⟩) 1 (zI ((0 : Nat) : Int)) (by omega) (by omega) ⟨rfl, by omega⟩
  rw [← hx]
  exact e
end QD
theorem q_crest {I : tq_PI} {L : tq_PL} (V : HV I L 1 0) (x : Int32) (f : Bool) : ∃ v, FX11_crest I L 0 x (zB f) = some v ∧ ∀ J M, J 137 = I 137 → ∃ J2, FX12_crest J M 136 x (zB f) = some (v, J2) ∧ FP J J2 := by
  rcases hill_case V x with ⟨e, r⟩ | ⟨i, w, h, K, hi, rfl, e, H, S, r⟩
  · exact ⟨-1, by unfold FX11_crest; rw [rg_0_0, e, obind]; rfl, fun J M hJ => ⟨J, by unfold FX12_crest; rw [r J M hJ, obind]; rfl, FP.rf⟩⟩
  · have e1 := c_crest H
    have hh := H.k.2.2.1
    have hl := argm_le (rwo w K) (h - 1)
    have e2 := c_row H (y := argm (rwo w K) (h - 1)) (by omega)
    have ref : ∀ J M, J 137 = I 137 → ∃ J2, FP J J2 ∧ FX12_crest J M 136 (zI (i : Int)) (zB f) = (if f = false then some (zI (argm (rwo w K) (h - 1) : Nat), J2) else some (zI (rwo w K (argm (rwo w K) (h - 1)) : Nat), J2)) := fun J M hJ => by
      obtain ⟨J1, J2, h1, h2, R1, R2, G2, P1, P2, -⟩ := r J M hJ
      have e3 := r_crest R2 G2 M (zB f)
      have e4 := r_row R2 G2 M (y := argm (rwo w K) (h - 1)) (by omega)
      refine ⟨J2, P2, ?_⟩
      unfold FX12_crest
      simp only [h1, h2, obind]
      rw [if_neg (show ¬ tq_b true = 0 by decide)]
      refine (congrArg (fun o => Option.bind o _) e3).trans ((obind _ _).trans ?_)
      simp only [zI_lit, zB_0, e4, obind]
    unfold FX11_crest
    simp only [rg_0_0, e, obind, oel_s, e1, zlet, e2, zI_lit, zB_0]
    cases f
    · refine ⟨_, by rw [if_pos rfl], fun J M hJ => ?_⟩
      obtain ⟨J2, P2, e5⟩ := ref J M hJ
      exact ⟨J2, by rw [e5, if_pos rfl], P2⟩
    · refine ⟨_, by rw [if_neg (by simp)], fun J M hJ => ?_⟩
      obtain ⟨J2, P2, e5⟩ := ref J M hJ
      exact ⟨J2, by rw [e5, if_neg (by simp)], P2⟩
/-! border -/
def wah (K : Nat → Nat) (c : Nat) : Nat := ws wor K (fun p => decide (p % 8 < c))
def wto (K : Nat → Nat) : Nat := ws wor K (fun _ => true)
def una (K : Nat → Nat) (c : Nat) : Nat := (2 * (wah K c : Int) - (wto K : Int)).natAbs
theorem una_le (K : Nat → Nat) (c : Nat) : una K c ≤ 1000 := by
  have h1 : wah K c ≤ 256 := ws_le K _ wor_le
  have h2 : wto K ≤ 256 := ws_le K _ wor_le
  unfold una
  omega
section QE
variable {I : tq_PI} {L : tq_PL} {a w h : Nat} {K : Nat → Nat}
theorem c_ahead (H : HC I L a w h K) {c : Nat} (hc : c ≤ w) : FX3_worthAhead I L a (zI (c : Int)) = some (zI (wah K c : Nat)) := by
  have h6 := H.k.2.2.2
  have h8 := H.k.2.1
  have hle : ∀ i, ws wor K (fun p => decide (p / 8 < i) && decide (p % 8 < c)) ≤ 256 := fun i => ws_le K _ wor_le
  obtain ⟨x, e, hx⟩ := it_for (f := fun p : Int32 × Int32 => FX3_worthAhead_s4 I L a (zI (c : Int)) p.1 p.2) (fun i (x : Int32) => (x, zI (i : Int))) h (fun i x => x = zI (ws wor K (fun p => decide (p / 8 < i) && decide (p % 8 < c)) : Nat)) (Post := fun x => x = zI (ws wor K (fun p => decide (p / 8 < h) && decide (p % 8 < c)) : Nat)) (fun i x hi hx => by
    subst hx
    have := hle i
    unfold FX3_worthAhead_s4
    rw [H.2.1]
    simp (disch := omega) only [zlet, zI_lit, zI_mul, zI_le, c_worth H, zI_add]
    rw [if_neg (by omega), mask_bb (by omega) (by omega)]
    refine Or.inl ⟨_, rfl, ?_⟩
    congr 1
    have : ws wor K (fun p => decide (p / 8 < i + 1) && decide (p % 8 < c)) = ws wor K (fun p => decide (p / 8 < i) && decide (p % 8 < c)) + ws wor K (fun p => decide (p / 8 = i) && decide (p % 8 < c)) := by
      unfold ws
      rw [← fb_sm_add]
      refine fb_sm_cong fun p _ => ?_
      by_cases q1 : p % 8 < c
      · rcases Nat.lt_trichotomy (p / 8) i with q | q | q
        · have a1 : p / 8 < i + 1 := by omega
          have a2 : ¬ p / 8 = i := by omega
          simp [q1, q, a1, a2]
        · have a1 : p / 8 < i + 1 := by omega
          have a2 : ¬ p / 8 < i := by omega
          simp [q1, q, a1, a2]
        · have a1 : ¬ p / 8 < i + 1 := by omega
          have a2 : ¬ p / 8 < i := by omega
          have a3 : ¬ p / 8 = i := by omega
          simp [a1, a2, a3]
      · simp [q1]
    rw [this]
    rfl) (fun x hx => by
    unfold FX3_worthAhead_s4
    rw [H.2.1]
    simp (disch := omega) only [zlet, obind, zI_lit, zI_neg, zI_add, zI_sub, zI_mul, zI_div, zI_le, zI_lt, zI_eq, zI_cl, irem, ile_t, ile_f, ilt_t, ilt_f, ieq_t, ieq_f, and_true, true_and, and_false, false_and, and_self, not_true_eq_false, not_false_eq_true, ↓reduceIte, Int.toNat_natCast, tqb_z, tqb_t, tqb_f]
    exact ⟨_, rfl, hx⟩) 0 (zI ((0 : Nat) : Int)) (by omega) (by omega) (by
      rw [show (fun p => decide (p / 8 < 0) && decide (p % 8 < c)) = fun _ => false from funext fun p => by simp, ws_0])
  unfold FX3_worthAhead
  refine (congrArg (fun o => Option.bind o _) e).trans ((obind _ _).trans ?_)
  rw [hx]
  congr 3
  unfold wah ws
  refine fb_sm_cong fun p _ => ?_
  by_cases q : p / 8 < h
  · simp [q]
  · have : K p = 0 := H.z p (by cases e : ar w h p; rfl; rw [ar_iff] at e; omega)
    simp [q, this, wor]
theorem c_unfair (H : HC I L a w h K) {c : Nat} (hc : c ≤ w) : FX3_unfairness I L a (zI (c : Int)) = some (zI (una K c : Nat)) := by
  have h1 : wah K c ≤ 256 := ws_le K _ wor_le
  have h2 : wto K ≤ 256 := ws_le K _ wor_le
  have ht : ws wor K (bb (L a 2)) = wto K := by
    unfold wto ws
    refine fb_sm_cong fun p _ => ?_
    rw [H.area]
    cases e : ar w h p
    · simp [H.z p e, wor]
    · simp
  unfold FX3_unfairness
  rw [c_ahead H hc, obind, zlet, c_worth H, ht]
  simp (disch := omega) only [zlet, obind, zI_lit, zI_neg, zI_add, zI_sub, zI_mul, zI_div, zI_le, zI_lt, zI_eq, zI_cl, irem, ile_t, ile_f, ilt_t, ilt_f, ieq_t, ieq_f, and_true, true_and, and_false, false_and, and_self, not_true_eq_false, not_false_eq_true, ↓reduceIte, Int.toNat_natCast, tqb_z, tqb_t, tqb_f]
  unfold una
  by_cases q : 0 ≤ 2 * (wah K c : Int) - (wto K : Int)
  · rw [if_pos q]
    congr 2
    omega
  · rw [if_neg q]
    congr 2
    omega
theorem c_fair (H : HC I L a w h K) : FX3_fairColumn I L a = some (zI (argl (una K) w : Nat)) := by
  have h2 := H.k.1
  have h6 := H.k.2.1
  obtain ⟨x, e, hx⟩ := it_for (f := fun p : Int32 × Int32 => FX3_fairColumn_s4 I L a p.1 p.2) (fun i (x : Int32) => (x, zI (i : Int))) (w + 1) (fun i x => x = zI (argl (una K) (i - 1) : Nat) ∧ 1 ≤ i) (Post := fun x => x = zI (argl (una K) w : Nat)) (fun i x hi hx => by
    obtain ⟨rfl, h1⟩ := hx
    obtain ⟨j, rfl⟩ : ∃ j, i = j + 1 := ⟨i - 1, by omega⟩
    rw [show j + 1 - 1 = j by omega]
    have l0 := argl_le (una K) j
    have l1 := una_le K (j + 1)
    have l2 := una_le K (argl (una K) j)
    unfold FX3_fairColumn_s4 FX3_fairColumn_j27L4
    rw [H.1, c_unfair H (c := j + 1) (by omega), c_unfair H (c := argl (una K) j) (by omega)]
    simp (disch := omega) only [obind, zI_le, zI_lt]
    rw [if_neg (by omega)]
    refine Or.inl ⟨zI (argl (una K) (j + 1) : Nat), ?_, by rw [show j + 1 + 1 - 1 = j + 1 by omega], by omega⟩
    rw [argl_s]
    by_cases q : una K (j + 1) < una K (argl (una K) j)
    · rw [if_neg (by omega), if_pos q]
      simp only [zI_lit, zI_add]; rfl
    · rw [if_pos (by omega), if_neg q]
      simp only [zI_lit, zI_add]; rfl) (fun x hx => by
    unfold FX3_fairColumn_s4
    rw [H.1]
    simp (disch := omega) only [zlet, obind, zI_lit, zI_neg, zI_add, zI_sub, zI_mul, zI_div, zI_le, zI_lt, zI_eq, zI_cl, irem, ile_t, ile_f, ilt_t, ilt_f, ieq_t, ieq_f, and_true, true_and, and_false, false_and, and_self, not_true_eq_false, not_false_eq_true, ↓reduceIte, Int.toNat_natCast, tqb_z, tqb_t, tqb_f]
    exact ⟨_, rfl, hx.1⟩) 1 (zI ((0 : Nat) : Int)) (by omega) (by omega) ⟨rfl, by omega⟩
  unfold FX3_fairColumn
  refine (congrArg (fun o => Option.bind o _) e).trans ((obind _ _).trans ?_)
  rw [hx]
theorem r_apart {J : tq_PI} (R : RW J w h) (G : GR J w h 0 K) (M : tq_PL) {c : Nat} (hcw : c ≤ w) : FX12_apart J M 136 (zI (c : Int)) = some (zI (una K c : Nat)) := by
  have k := R.2.2
  have h48 := wh_le k
  have h8 := k.2.1
  have h2 := k.1
  obtain ⟨g, hg⟩ : ∃ g : Nat → Int, g = fun p => if p % 8 < c then (wor (K p) : Int) else -(wor (K p) : Int) := ⟨_, rfl⟩
  have gb : ∀ p, -4 ≤ g p ∧ g p ≤ 4 := fun p => by
    have := wor_le (K p)
    rw [hg]
    dsimp only
    split <;> omega
  have hb : ∀ n, n ≤ w * h → -192 ≤ fb_si (fun i => g (pl w i)) n ∧ fb_si (fun i => g (pl w i)) n ≤ 192 := fun n hn => by
    have := fb_si_bound (f := fun i => g (pl w i)) (c := 4) (by omega) (n := n) (fun i _ => gb _)
    omega
  obtain ⟨x, e, hx⟩ := it_for (f := fun p : Int32 × Int32 => FX12_apart_s4 J M 136 (zI (c : Int)) p.1 p.2) (fun i (x : Int32) => (x, zI (i : Int))) (w * h) (fun i x => x = zI (fb_si (fun i => g (pl w i)) i)) (Post := fun x => x = zI (fb_si (fun i => g (pl w i)) (w * h))) (fun i x hi hx => by
    subst hx
    have := hb i (by omega)
    have hml : i % w < w := Nat.mod_lt _ (by omega)
    have hm := pl_mod k i
    have e3 : ((i : Int) % (w : Int)) = ((i % w : Nat) : Int) := rfl
    have kd := r_kind k G (by omega) M (z := (i : Int)) (by omega)
    have kd' : FX12_kindOf J M 136 (zI 0) (zI (i : Int)) = some (zI (K (pl w i) : Nat)) := kd
    unfold FX12_apart_s4 FX12_apart_j45L4
    simp (disch := omega) only [zlet, obind, zI_lit, zI_neg, zI_add, zI_sub, zI_mul, zI_div, zI_le, zI_lt, zI_eq, zI_cl, irem, ile_t, ile_f, ilt_t, ilt_f, ieq_t, ieq_f, and_true, true_and, and_false, false_and, and_self, not_true_eq_false, not_false_eq_true, ↓reduceIte, Int.toNat_natCast, tqb_z, tqb_t, tqb_f, r_many R, R.1, kd', r_worth _ _ (G.2.1 _), e3]
    refine Or.inl ⟨zI (fb_si (fun i => g (pl w i)) (i + 1)), ?_, rfl⟩
    rw [fb_si_succ, hg]
    dsimp only
    rw [hm]
    by_cases q : i % w < c
    · rw [if_neg (by omega), if_pos q]; rfl
    · rw [if_pos (by omega), if_neg q]; rfl) (fun x hx => by
    unfold FX12_apart_s4
    simp (disch := omega) only [zlet, obind, zI_lit, zI_neg, zI_add, zI_sub, zI_mul, zI_div, zI_le, zI_lt, zI_eq, zI_cl, irem, ile_t, ile_f, ilt_t, ilt_f, ieq_t, ieq_f, and_true, true_and, and_false, false_and, and_self, not_true_eq_false, not_false_eq_true, ↓reduceIte, Int.toNat_natCast, tqb_z, tqb_t, tqb_f, r_many R]
    exact ⟨_, rfl, hx⟩) 0 (zI 0) (by omega) (by omega) rfl
  have val : fb_si (fun i => g (pl w i)) (w * h) = 2 * (wah K c : Int) - (wto K : Int) := by
    have e1 : (fun i => g (pl w i)) = fun i => 2 * (((fun p => if p % 8 < c then wor (K p) else 0) (pl w i) : Nat) : Int) - (((fun p => wor (K p)) (pl w i) : Nat) : Int) := funext fun i => by
      rw [hg]
      dsimp only
      split <;> omega
    have z : ∀ p, ar w h p = false → wor (K p) = 0 := fun p hp => by rw [G.2.2 p hp]; rfl
    rw [e1, fb_si_sub, fb_si_mul, fb_si_nat, fb_si_nat, sm_all k (fun p => if p % 8 < c then wor (K p) else 0) (fun p hp => by rw [z p hp]; simp), sm_all k (fun p => wor (K p)) z]
    unfold wah wto ws
    simp
  have := hb (w * h) (Nat.le_refl _)
  unfold FX12_apart
  refine (congrArg (fun o => Option.bind o _) e).trans ((obind _ _).trans ?_)
  rw [hx]
  simp (disch := omega) only [zlet, obind, zI_lit, zI_neg, zI_add, zI_sub, zI_mul, zI_div, zI_le, zI_lt, zI_eq, zI_cl, irem, ile_t, ile_f, ilt_t, ilt_f, ieq_t, ieq_f, and_true, true_and, and_false, false_and, and_self, not_true_eq_false, not_false_eq_true, ↓reduceIte, Int.toNat_natCast, tqb_z, tqb_t, tqb_f]
  unfold una
  rw [val] at this ⊢
  by_cases q : 0 ≤ 2 * (wah K c : Int) - (wto K : Int)
  · rw [if_pos q]
    congr 2
    omega
  · rw [if_neg q]
    congr 2
    omega
theorem r_border {J : tq_PI} (R : RW J w h) (G : GR J w h 0 K) (M : tq_PL) (u : Int32) : tq_it (fun p : Int32 × Int32 => FX12_border_s19 J M 136 u p.1 p.2) tq_N (zI ((0 : Nat) : Int), zI ((1 : Nat) : Int)) = some (zI (argl (una K) w : Nat)) := by
  have h2 := R.2.2.1
  have h6 := R.2.2.2.1
  obtain ⟨x, e, hx⟩ := it_for (f := fun p : Int32 × Int32 => FX12_border_s19 J M 136 u p.1 p.2) (fun i (x : Int32) => (x, zI (i : Int))) (w + 1) (fun i x => x = zI (argl (una K) (i - 1) : Nat) ∧ 1 ≤ i) (Post := fun x => x = zI (argl (una K) w : Nat)) (fun i x hi hx => by
    obtain ⟨rfl, h1⟩ := hx
    obtain ⟨j, rfl⟩ : ∃ j, i = j + 1 := ⟨i - 1, by omega⟩
    rw [show j + 1 - 1 = j by omega]
    have l0 := argl_le (una K) j
    have l1 := una_le K (j + 1)
    have l2 := una_le K (argl (una K) j)
    unfold FX12_border_s19 FX12_border_j48L19
    rw [R.1, r_apart R G M (c := j + 1) (by omega), r_apart R G M (c := argl (una K) j) (by omega)]
    simp (disch := omega) only [obind, zI_le, zI_lt]
    rw [if_neg (by omega)]
    refine Or.inl ⟨zI (argl (una K) (j + 1) : Nat), ?_, by rw [show j + 1 + 1 - 1 = j + 1 by omega], by omega⟩
    rw [argl_s]
    by_cases q : una K (j + 1) < una K (argl (una K) j)
    · rw [if_neg (by omega), if_pos q]
      simp only [zI_lit, zI_add]; rfl
    · rw [if_pos (by omega), if_neg q]
      simp only [zI_lit, zI_add]; rfl) (fun x hx => by
    unfold FX12_border_s19
    rw [R.1]
    simp (disch := omega) only [zlet, obind, zI_lit, zI_neg, zI_add, zI_sub, zI_mul, zI_div, zI_le, zI_lt, zI_eq, zI_cl, irem, ile_t, ile_f, ilt_t, ilt_f, ieq_t, ieq_f, and_true, true_and, and_false, false_and, and_self, not_true_eq_false, not_false_eq_true, ↓reduceIte, Int.toNat_natCast, tqb_z, tqb_t, tqb_f]
    exact ⟨_, rfl, hx.1⟩) 1 (zI ((0 : Nat) : Int)) (by omega) (by omega) ⟨rfl, by omega⟩
  rw [← hx]
  exact e
end QE
theorem q_border {I : tq_PI} {L : tq_PL} (V : HV I L 1 0) (x : Int32) (f : Bool) : ∃ v, FX11_border I L 0 x (zB f) = some v ∧ ∀ J M, J 137 = I 137 → ∃ J2, FX12_border J M 136 x (zB f) = some (v, J2) ∧ FP J J2 := by
  rcases hill_case V x with ⟨e, r⟩ | ⟨i, w, h, K, hi, rfl, e, H, S, r⟩
  · exact ⟨-1, by unfold FX11_border; rw [rg_0_0, e, obind]; rfl, fun J M hJ => ⟨J, by unfold FX12_border; rw [r J M hJ, obind]; rfl, FP.rf⟩⟩
  · have e1 := c_fair H
    have hl := argl_le (una K) w
    have e2 := c_unfair H (c := argl (una K) w) (by omega)
    have ref : ∀ J M, J 137 = I 137 → ∃ J2, FP J J2 ∧ FX12_border J M 136 (zI (i : Int)) (zB f) = (if f = false then some (zI (argl (una K) w : Nat), J2) else some (zI (una K (argl (una K) w) : Nat), J2)) := fun J M hJ => by
      obtain ⟨J1, J2, h1, h2, R1, R2, G2, P1, P2, -⟩ := r J M hJ
      have e3 := r_border R2 G2 M (zB f)
      have e4 := r_apart R2 G2 M (c := argl (una K) w) (by omega)
      refine ⟨J2, P2, ?_⟩
      unfold FX12_border
      simp only [h1, h2, obind]
      rw [if_neg (show ¬ tq_b true = 0 by decide)]
      refine (congrArg (fun o => Option.bind o _) e3).trans ((obind _ _).trans ?_)
      simp only [zI_lit, zB_0, e4, obind]
    unfold FX11_border
    simp only [rg_0_0, e, obind, oel_s, e1, e2, zI_lit, zB_0]
    cases f
    · refine ⟨_, by rw [if_pos rfl], fun J M hJ => ?_⟩
      obtain ⟨J2, P2, e5⟩ := ref J M hJ
      exact ⟨J2, by rw [e5, if_pos rfl], P2⟩
    · refine ⟨_, by rw [if_neg (by simp)], fun J M hJ => ?_⟩
      obtain ⟨J2, P2, e5⟩ := ref J M hJ
      exact ⟨J2, by rw [e5, if_neg (by simp)], P2⟩
