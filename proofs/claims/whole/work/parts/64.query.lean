/-! QUERIES, the first: cells, kinds, picks; hill, thick, comes. -/
theorem fb_ct_yes {P : Nat → Bool} {n : Nat} (h : P n = true) : fb_ct P (n + 1) = fb_ct P n + 1 := by rw [fb_ct_succ, h]; simp
theorem oel_s {α β : Type} (x : α) (b : β) (f : α → β) : (some x).elim b f = f x := rfl
theorem oel_n {α β : Type} (b : β) (f : α → β) : (none : Option α).elim b f = b := rfl
section QA
variable {I : tq_PI} {L : tq_PL} {a w h : Nat} {K : Nat → Nat}
theorem c_bitOf_f (H : HC I L a w h K) {z : Int} (hz : -2147483648 ≤ z ∧ z < 2147483648) (hn : ¬ (0 ≤ z ∧ z < ((w * h : Nat) : Int))) : FX3_bitOf I L a (zI z) = some 0 := by
  have h48 := wh_le H.k
  have h4 := wh_ge H.k
  have hw := H.k.1
  have hw8 := H.k.2.1
  have hwh : (w : Int) * (h : Int) = ((w * h : Nat) : Int) := by simp
  unfold FX3_bitOf FX3_bitOf_j20 FX3_cellCount
  rw [H.1, H.2.1]
  simp (disch := omega) only [zlet, zI_lit, zI_mul, hwh]
  generalize w * h = n at *
  simp (disch := omega) only [zlet, obind, zI_lit, zI_neg, zI_add, zI_sub, zI_mul, zI_div, zI_le, zI_lt, zI_eq, zI_cl, irem, ile_t, ile_f, ilt_t, ilt_f, ieq_t, ieq_f, and_true, true_and, and_false, false_and, and_self, not_true_eq_false, not_false_eq_true, ↓reduceIte, Int.toNat_natCast, tqb_z, tqb_t, tqb_f]
  by_cases q : z < 0
  · rw [if_pos q]
  · simp (disch := omega) only [zlet, obind, zI_lit, zI_neg, zI_add, zI_sub, zI_mul, zI_div, zI_le, zI_lt, zI_eq, zI_cl, irem, ile_t, ile_f, ilt_t, ilt_f, ieq_t, ieq_f, and_true, true_and, and_false, false_and, and_self, not_true_eq_false, not_false_eq_true, ↓reduceIte, Int.toNat_natCast, tqb_z, tqb_t, tqb_f]
    try rw [if_neg q]
theorem c_bitOf_t (H : HC I L a w h K) {c : Nat} (hc : c < w * h) : ∃ y, FX3_bitOf I L a (zI (c : Int)) = some y ∧ bb y = fun q => decide (q = pl w c) := by
  have h48 := wh_le H.k
  obtain ⟨q1, q2, q3, q4⟩ := H.k
  have kk : wh w h := ⟨q1, q2, q3, q4⟩
  have hml : c % w < w := Nat.mod_lt _ (by omega)
  have hdl := (pl_row kk (c := c)).1 hc
  have hwh : (w : Int) * (h : Int) = ((w * h : Nat) : Int) := by simp
  have e3 : ((c : Int) % (w : Int)) = ((c % w : Nat) : Int) := rfl
  have e4 : ((c : Int) / (w : Int)) = ((c / w : Nat) : Int) := rfl
  have e5 : (0 : Int) ≤ ((c / w : Nat) : Int) := Int.natCast_nonneg _
  have e6 : (0 : Int) ≤ (c : Int) / (w : Int) := e5
  refine ⟨(1 : Int64) <<< (Int32.toInt64 (zI (8 * ((c / w : Nat) : Int) + ((c % w : Nat) : Int))) &&& 63), ?_, ?_⟩
  · unfold FX3_bitOf FX3_bitOf_j20 FX3_cellCount FX3_bitAt FX3_bitAt_j24
    rw [H.1, H.2.1]
    simp (disch := omega) only [zlet, zI_lit, zI_mul, hwh]
    generalize w * h = n at *
    simp (disch := omega) only [zlet, obind, zI_lit, zI_neg, zI_add, zI_sub, zI_mul, zI_div, zI_le, zI_lt, zI_eq, zI_cl, irem, ile_t, ile_f, ilt_t, ilt_f, ieq_t, ieq_f, and_true, true_and, and_false, false_and, and_self, not_true_eq_false, not_false_eq_true, ↓reduceIte, Int.toNat_natCast, tqb_z, tqb_t, tqb_f, e3]
    simp only [e4]
  · funext q
    rw [bb_one (by omega)]
    congr 2
theorem bb_hit {x y : Int64} {p : Nat} (hy : bb y = fun q => decide (q = p)) : (x &&& y) = 0 ↔ bb x p = false := by
  rw [bb_meet]
  constructor
  · intro q
    cases e : bb x p
    · rfl
    · exact (q p e (by rw [hy]; simp)).elim
  · intro q r h1 h2
    rw [hy] at h2
    simp only [decide_eq_true_eq] at h2
    rw [h2, q] at h1
    cases h1
theorem bb_and_one {x y : Int64} {p : Nat} (hy : bb y = fun q => decide (q = p)) (hx : bb x p = true) : bb (x &&& y) = fun q => decide (q = p) := funext fun q => by
  rw [bb_and, hy]
  by_cases e : q = p
  · simp [e, hx]
  · simp [e]
theorem c_kindOfBit (H : HC I L a w h K) {y : Int64} {p : Nat} (hy : bb y = fun q => decide (q = p)) : FX3_kindOfBit I L a y = zI (K p : Nat) := by
  have := H.le p
  unfold FX3_kindOfBit
  simp only [lgc, bb_hit hy, H.m1, H.m2, H.m3, H.m4, decide_eq_false_iff_not]
  rcases (by omega : K p = 0 ∨ K p = 1 ∨ K p = 2 ∨ K p = 3 ∨ K p = 4) with e | e | e | e | e <;> simp [e] <;> rfl
theorem c_kindOf_t (H : HC I L a w h K) {c : Nat} (hc : c < w * h) : FX3_kindOf I L a (zI (c : Int)) = some (zI (K (pl w c) : Nat)) := by
  obtain ⟨y, e, hy⟩ := c_bitOf_t H hc
  unfold FX3_kindOf
  rw [e, obind]
  have : ¬ y = 0 := fun q => by rw [q] at hy; have := congrFun hy (pl w c); rw [bb_0] at this; simp at this
  simp only [lgc, if_neg this, zlet, c_kindOfBit H hy]
theorem c_kindOf_f (H : HC I L a w h K) {z : Int} (hz : -2147483648 ≤ z ∧ z < 2147483648) (hn : ¬ (0 ≤ z ∧ z < ((w * h : Nat) : Int))) : FX3_kindOf I L a (zI z) = some (-1) := by
  unfold FX3_kindOf
  rw [c_bitOf_f H hz hn, obind]
  simp only [lgc, if_true]
theorem c_pick_f (x : Int64) {z : Int} (hz : -2147483648 ≤ z ∧ z < 2147483648) (hn : ¬ (0 ≤ z ∧ z < ((fb_ct (bb x) 64 : Nat) : Int))) : FX3_pick I L a x (zI z) = some (-1) := by
  have := fb_ct_le (bb x) 64
  unfold FX3_pick FX3_pick_j12
  simp (disch := omega) only [zlet, bc_eq, zI_lit, zI_lt]
  by_cases q : z < 0
  · rw [if_pos q, zI_neg]
  · rw [if_neg q, if_neg (by omega), zI_neg]
theorem c_pick_t (H : HC I L a w h K) {x : Int64} {P : Nat → Bool} (hx : bb x = P) {p : Nat} (hp : P p = true) (hp64 : p < 64) : FX3_pick I L a x (zI (fb_ct P p : Nat)) = some (zI (cl w p : Nat)) := by
  have l1 := fb_ct_le P p
  have l2 : fb_ct P p < fb_ct P 64 := by
    have := fb_ct_mono P (m := p + 1) (n := 64) (by omega)
    rw [fb_ct_yes hp] at this
    omega
  have l3 := fb_ct_le P 64
  obtain ⟨y, e, hy⟩ := it_for (f := fun q : Int64 × Int32 => FX3_pick_s20 I L a (zI (fb_ct P p : Nat)) q.1 q.2) (fun i (y : Int64) => (y, zI (i : Int))) (fb_ct P p) (fun i y => bb y = fun q => P q && decide (i ≤ fb_ct P q)) (Post := fun y => bb y = fun q => P q && decide (fb_ct P p ≤ fb_ct P q)) (fun i y hi hy => by
    unfold FX3_pick_s20
    simp (disch := omega) only [zlet, obind, zI_lit, zI_neg, zI_add, zI_sub, zI_mul, zI_div, zI_le, zI_lt, zI_eq, zI_cl, irem, ile_t, ile_f, ilt_t, ilt_f, ieq_t, ieq_f, and_true, true_and, and_false, false_and, and_self, not_true_eq_false, not_false_eq_true, ↓reduceIte, Int.toNat_natCast, tqb_z, tqb_t, tqb_f]
    refine Or.inl ⟨_, rfl, ?_⟩
    obtain ⟨m, hm1, hm2, hm3⟩ := fb_ct_kth (p := P) (k := i) (n := 64) (by omega)
    have b1 : bb y m = true := by rw [hy]; simp [hm2, hm3]
    have b2 : ∀ q, q < m → bb y q = false := fun q hq => by
      rw [hy]
      cases e : P q
      · simp [e]
      · have := fb_ct_mono P (m := q + 1) (n := m) (by omega)
        rw [fb_ct_yes e] at this
        simp; omega
    funext q
    rw [bb_and, bb_sub1 b1 b2]
    by_cases r : q < m
    · rw [b2 q r]
      cases e : P q
      · rfl
      · have := fb_ct_mono P (m := q + 1) (n := m) (by omega)
        rw [fb_ct_yes e] at this
        symm; simp; omega
    · rw [if_neg r]
      by_cases r2 : q = m
      · rw [if_pos r2, r2, hm2, hm3, Bool.and_false]; symm; simp
      · rw [if_neg r2, Bool.and_self, hy]
        have := fb_ct_mono P (m := m + 1) (n := q) (by omega)
        rw [fb_ct_yes hm2] at this
        have h1 : i ≤ fb_ct P q := by omega
        have h2 : i + 1 ≤ fb_ct P q := by omega
        simp [h1, h2]) (fun y hy => by
    unfold FX3_pick_s20
    simp (disch := omega) only [zlet, obind, zI_lit, zI_neg, zI_add, zI_sub, zI_mul, zI_div, zI_le, zI_lt, zI_eq, zI_cl, irem, ile_t, ile_f, ilt_t, ilt_f, ieq_t, ieq_f, and_true, true_and, and_false, false_and, and_self, not_true_eq_false, not_false_eq_true, ↓reduceIte, Int.toNat_natCast, tqb_z, tqb_t, tqb_f]
    exact ⟨_, rfl, hy⟩) 0 x (by omega) (by omega) (by rw [hx]; funext q; simp)
  have b1 : bb y p = true := by rw [hy]; simp [hp]
  have b2 : ∀ q, q < p → bb y q = false := fun q hq => by
    rw [hy]
    cases e : P q
    · simp [e]
    · have := fb_ct_mono P (m := q + 1) (n := p) (by omega)
      rw [fb_ct_yes e] at this
      simp; omega
  unfold FX3_pick FX3_pick_j12
  rw [zlet, bc_eq, hx]
  have c1 : ¬ (zI ((fb_ct P p : Nat) : Int) < 0) := by rw [zI_lit, zI_lt (by omega) (by omega)]; omega
  have c2 : zI ((fb_ct P p : Nat) : Int) < zI ((fb_ct P 64 : Nat) : Int) := by rw [zI_lt (by omega) (by omega)]; omega
  rw [if_neg c1, if_pos c2]
  refine (congrArg (fun o => Option.bind o _) e).trans ((obind _ _).trans ?_)
  rw [zlet, c_num H.1 H.k.2.1 hp64 (c_low b1 b2), obind]
theorem r_worth (I : tq_PI) (L : tq_PL) {k : Nat} (hk : k ≤ 4) : FX12_worthOf I L (zI (k : Int)) = zI (wor k : Nat) := by
  unfold FX12_worthOf wor
  rcases (by omega : k = 0 ∨ k = 1 ∨ k = 2 ∨ k = 3 ∨ k = 4) with e | e | e | e | e <;> subst e <;> rfl
/-- stones, and their worth, of a level -/
theorem r_stones {J : tq_PI} {l : Nat} (R : RW J w h) (G : GR J w h l K) (hl : l ≤ 3) (L : tq_PL) (b : Bool) : FX12_stones J L 136 (zI (l : Int)) (zB b) = some (zI ((if b then ws wor K (sto K) else fb_ct (sto K) 64 : Nat) : Int)) := by
  have k := R.2.2
  have h48 := wh_le k
  obtain ⟨f, hf⟩ : ∃ f : Nat → Nat, f = fun p => if b then wor (K p) else cst K p := ⟨_, rfl⟩
  have fle : ∀ p, f p ≤ 4 := fun p => by
    rw [hf]
    have := cst_le K p
    have := wor_le (K p)
    dsimp only
    split <;> omega
  have hb : ∀ c, c ≤ w * h → fb_sm (fun i => f (pl w i)) c ≤ 256 := fun c hc => by
    have := fb_sm_le (f := fun i => f (pl w i)) (g := fun _ => 4) (n := c) (fun i _ => fle _)
    rw [fb_sm_const] at this
    omega
  obtain ⟨x, e, hx⟩ := it_for (f := fun p : Int32 × Int32 => FX12_stones_s5 J L 136 (zI (l : Int)) (zB b) p.1 p.2) (fun i (x : Int32) => (x, zI (i : Int))) (w * h) (fun i x => x = zI (fb_sm (fun i => f (pl w i)) i : Nat)) (Post := fun x => x = zI (fb_sm (fun i => f (pl w i)) (w * h) : Nat)) (fun i x hi hx => by
    subst hx
    have := hb i (by omega)
    unfold FX12_stones_s5 FX12_stones_j39L5
    simp (disch := omega) only [zlet, obind, zI_lit, zI_neg, zI_add, zI_sub, zI_mul, zI_div, zI_le, zI_lt, zI_eq, zI_cl, irem, ile_t, ile_f, ilt_t, ilt_f, ieq_t, ieq_f, and_true, true_and, and_false, false_and, and_self, not_true_eq_false, not_false_eq_true, ↓reduceIte, Int.toNat_natCast, tqb_z, tqb_t, tqb_f, r_many R, zB_0, r_cost k G hl, r_kind k G hl, r_worth _ _ (G.2.1 _)]
    refine Or.inl ⟨zI (fb_sm (fun i => f (pl w i)) (i + 1) : Nat), ?_, rfl⟩
    rw [fb_sm_succ, hf]
    cases b
    · rw [if_pos rfl]; simp
    · rw [if_neg (by simp)]; simp) (fun x hx => by
    unfold FX12_stones_s5
    simp (disch := omega) only [zlet, obind, zI_lit, zI_neg, zI_add, zI_sub, zI_mul, zI_div, zI_le, zI_lt, zI_eq, zI_cl, irem, ile_t, ile_f, ilt_t, ilt_f, ieq_t, ieq_f, and_true, true_and, and_false, false_and, and_self, not_true_eq_false, not_false_eq_true, ↓reduceIte, Int.toNat_natCast, tqb_z, tqb_t, tqb_f, r_many R]
    exact ⟨_, rfl, hx⟩) 0 (zI ((0 : Nat) : Int)) (by omega) (by omega) rfl
  unfold FX12_stones
  refine (congrArg (fun o => Option.bind o _) e).trans ((obind _ _).trans ?_)
  rw [hx, sm_all k f (fun p hp => by rw [hf]; simp [wor, cst, sto, G.2.2 p hp])]
  congr 3
  rw [hf]
  cases b
  · simp only [Bool.false_eq_true, if_false]
    rw [ct_sm]
    rfl
  · simp only [if_true]
    unfold ws
    refine fb_sm_cong fun p _ => ?_
    unfold sto wor
    by_cases q : 1 ≤ K p ∧ K p ≤ 3
    · simp [q]
    · simp only [q, decide_false, Bool.false_eq_true, if_false]
      rw [if_neg (by omega), if_neg (by omega), if_neg (by omega)]
theorem r_isCell {J : tq_PI} (R : RW J w h) (L : tq_PL) {z : Int} (hz : -2147483648 ≤ z ∧ z < 2147483648) : FX12_isCell J L 136 (zI z) = decide (0 ≤ z ∧ z < ((w * h : Nat) : Int)) := by
  have h48 := wh_le R.2.2
  unfold FX12_isCell
  simp (disch := omega) only [zlet, r_many R, zI_lit, zI_sub]
  rw [r_isIn _ _ hz (by omega) (by omega)]
  congr 1
  apply propext
  omega
end QA
theorem q_thick {I : tq_PI} {L : tq_PL} (V : HV I L 1 0) (x : Int32) : ∃ v, FX11_thick I L 0 x = some v ∧ ∀ J M, J 137 = I 137 → ∃ J2, FX12_thick J M 136 x = some (v, J2) ∧ FP J J2 := by
  rcases hill_case V x with ⟨e, r⟩ | ⟨i, w, h, K, hi, rfl, e, H, S, r⟩
  · refine ⟨-1, by unfold FX11_thick; rw [rg_0_0, e, obind]; rfl, fun J M hJ => ⟨J, by unfold FX12_thick; rw [r J M hJ, obind]; rfl, FP.rf⟩⟩
  · obtain ⟨t, e1, f1⟩ := c_thick H (c_sol H) (sb_rf K) H.z
    refine ⟨zI t, ?_, fun J M hJ => ?_⟩
    · unfold FX11_thick
      rw [rg_0_0, e, obind]
      rw [oel_s, zlet, e1, obind]
    · obtain ⟨J1, J2, h1, h2, R1, R2, G2, P1, P2, -⟩ := r J M hJ
      obtain ⟨J3, t2, e3, F3, f3⟩ := r_thick R2 G2 (by omega) M
      have e3' : FX12_thickOf J2 M 136 0 = some (zI t2, J3) := e3
      refine ⟨J3, ?_, P2.tr (F3.fp (by unfold psl; omega))⟩
      unfold FX12_thick
      rw [h1, obind]
      show (if tq_b true = 0 then _ else _) = _
      rw [if_neg (by decide), h2, obind, e3', obind, Few_one f1 f3]
