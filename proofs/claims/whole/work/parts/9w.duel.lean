/-! DUEL: gains; the class. -/
theorem cut_sto {w h : Nat} {M : Nat → Nat} {s p : Nat} (q : cut w h M s p = true) : sto M p = true := by
  simp only [cut, Bool.and_eq_true] at q
  exact q.1
def mxf (g : Nat → Int) (m : Int) (p : Nat) : Int := if m < g p then g p else m
theorem zI_mx {g : Nat → Int} {X : Int} {i : Nat} (hX : -1000 ≤ X ∧ X ≤ 1000) (hg : -1000 ≤ g i ∧ g i ≤ 1000) : (if zI X < zI (g i) then zI (g i) else zI X) = zI (mxf g X i) := by
  unfold mxf
  by_cases q : X < g i
  · rw [if_pos (by rw [zI_lt (by omega) (by omega)]; exact q), if_pos q]
  · rw [if_neg (by rw [zI_lt (by omega) (by omega)]; exact q), if_neg q]
theorem mx_char {g : Nat → Int} {P : Nat → Bool} {x : Int} : ∀ n, x ≤ fop (mxf g) P n x ∧ (∀ p, p < n → P p = true → g p ≤ fop (mxf g) P n x) ∧ (fop (mxf g) P n x = x ∨ ∃ p, p < n ∧ P p = true ∧ g p = fop (mxf g) P n x)
  | 0 => ⟨Int.le_refl _, fun p h => absurd h (Nat.not_lt_zero p), Or.inl rfl⟩
  | n + 1 => by
    obtain ⟨h1, h2, h3⟩ := mx_char (g := g) (P := P) (x := x) n
    rw [fop_s]
    cases e : P n
    · simp only [Bool.false_eq_true, if_false]
      refine ⟨h1, fun p hp pp => ?_, ?_⟩
      · by_cases q : p = n
        · rw [q, e] at pp; cases pp
        · exact h2 p (by omega) pp
      · rcases h3 with h3 | ⟨p, a, b, c⟩
        · exact Or.inl h3
        · exact Or.inr ⟨p, by omega, b, c⟩
    · simp only [if_true]
      unfold mxf
      by_cases q : fop (mxf g) P n x < g n
      · have q' : fop (fun m p => if m < g p then g p else m) P n x < g n := q
        rw [if_pos q']
        refine ⟨by omega, fun p hp pp => ?_, Or.inr ⟨n, by omega, e, rfl⟩⟩
        by_cases q2 : p = n
        · rw [q2]; exact Int.le_refl _
        · have := h2 p (by omega) pp; omega
      · have q' : ¬ fop (fun m p => if m < g p then g p else m) P n x < g n := q
        rw [if_neg q']
        refine ⟨h1, fun p hp pp => ?_, ?_⟩
        · by_cases q2 : p = n
          · rw [q2]; exact Int.not_lt.1 q
          · exact h2 p (by omega) pp
        · rcases h3 with h3 | ⟨p, a, b, c⟩
          · exact Or.inl h3
          · exact Or.inr ⟨p, by omega, b, c⟩
theorem mx_one {g : Nat → Int} {P : Nat → Bool} {x v u : Int} {n : Nat} (a1 : x ≤ v) (a2 : ∀ p, p < n → P p = true → g p ≤ v) (a3 : v = x ∨ ∃ p, p < n ∧ P p = true ∧ g p = v) (b1 : x ≤ u) (b2 : ∀ p, p < n → P p = true → g p ≤ u) (b3 : u = x ∨ ∃ p, p < n ∧ P p = true ∧ g p = u) : v = u := by
  have h1 : v ≤ u := by
    rcases a3 with a3 | ⟨p, c1, c2, c3⟩
    · omega
    · have := b2 p c1 c2; omega
  have h2 : u ≤ v := by
    rcases b3 with b3 | ⟨p, c1, c2, c3⟩
    · omega
    · have := a2 p c1 c2; omega
  omega
def g1 (w h : Nat) (M : Nat → Nat) (s : Nat) : Int := fop (mxf (fun p => (wor (M p) : Int))) (cut w h M s) 48 0
theorem g1_rg (w h : Nat) (M : Nat → Nat) (s : Nat) : 0 ≤ g1 w h M s ∧ g1 w h M s ≤ 4 := by
  obtain ⟨h1, h2, h3⟩ := mx_char (g := fun p => (wor (M p) : Int)) (P := cut w h M s) (x := 0) 48
  refine ⟨h1, ?_⟩
  unfold g1
  rcases h3 with h3 | ⟨p, _, _, c⟩
  · omega
  · have := wor_le (M p); omega
def g2 (w h : Nat) (M : Nat → Nat) (s : Nat) : Int := fop (mxf (fun p => (wor (M p) : Int) - g1 w h (kst h (kup M p 0)) (1 - s))) (cut w h M s) 48 (-(g1 w h M (1 - s)))
theorem g2_rg (w h : Nat) (M : Nat → Nat) (s : Nat) : -4 ≤ g2 w h M s ∧ g2 w h M s ≤ 4 := by
  obtain ⟨h1, h2, h3⟩ := mx_char (g := fun p => (wor (M p) : Int) - g1 w h (kst h (kup M p 0)) (1 - s)) (P := cut w h M s) (x := -(g1 w h M (1 - s))) 48
  have r := g1_rg w h M (1 - s)
  unfold g2
  rcases h3 with h3 | ⟨p, _, _, c⟩
  · omega
  · have := wor_le (M p)
    have r2 := g1_rg w h (kst h (kup M p 0)) (1 - s)
    omega
def gn (w h : Nat) (t : Nat) (M : Nat → Nat) (s : Nat) : Int := if t = 0 then 0 else if t = 1 then g1 w h M s else g2 w h M s
theorem gn_rg (w h t : Nat) (M : Nat → Nat) (s : Nat) : -4 ≤ gn w h t M s ∧ gn w h t M s ≤ 4 := by
  have a := g1_rg w h M s
  have b := g2_rg w h M s
  unfold gn
  split
  · omega
  · split <;> omega
/-- a hill behind cuts and FALL: fewer cells than as told -/
def ltd (K M : Nat → Nat) : Prop := ∀ p, M p = K p ∨ M p = 0
theorem ltd_sb {K M : Nat → Nat} (l : ltd K M) : sb K M := fun p => by
  rcases l p with q | q
  · exact Or.inl q
  · exact Or.inr (Or.inl q)
theorem ltd_z {w h : Nat} {K M : Nat → Nat} (l : ltd K M) (z : ∀ p, ar w h p = false → K p = 0) : ∀ p, ar w h p = false → M p = 0 := fun p hp => by
  rcases l p with q | q
  · rw [q]; exact z p hp
  · exact q
theorem ltd_up {K M : Nat → Nat} (l : ltd K M) (h p : Nat) : ltd K (kst h (kup M p 0)) := fun q => by
  unfold kst
  split
  · unfold kup
    split
    · exact Or.inr rfl
    · exact l q
  · exact Or.inr rfl
theorem ltd_eq {K M : Nat → Nat} (l : ltd K M) {p : Nat} (q : sto M p = true) : M p = K p := by
  rcases l p with r | r
  · exact r
  · simp [sto, r] at q
section DC
variable {I : tq_PI} {L : tq_PL} {a w h : Nat} {K : Nat → Nat}
theorem c_gain1 (H : HC I L a w h K) {s f : Nat} (hs : s < 2) {x : Int64} {M : Nat → Nat} (hx : bb x = sol M) (l : ltd K M) : FX5_gainOf (f + 1) I L a (zI (s : Int)) x (zI 1) = some (zI (g1 w h M s)) := by
  obtain ⟨y, e, hy⟩ := c_cut H hs hx (ltd_sb l) (ltd_z l H.z)
  show FX5_gainOfb (FX5_gainOf f) I L a (zI (s : Int)) x (zI 1) = _
  unfold FX5_gainOfb
  rw [if_neg (by decide), if_pos (by decide), e, obind, if_pos (by decide), zlet, zlet, c_worth H]
  have hk : ∀ p, cut w h M s p = true → M p = K p := fun p q => ltd_eq l (cut_sto q)
  have h48 : ∀ p, cut w h M s p = true → p < 48 := fun p q => ar_lt H.k.2.2.2 (cut_ar (ltd_z l H.z) q)
  obtain ⟨m1, m2, m3⟩ := mx_char (g := fun p => (wor (M p) : Int)) (P := cut w h M s) (x := 0) 48
  congr 2
  rcases c_dear H hy (fun p q => by have e3 := cut_sto q; unfold sto at e3 ⊢; rw [← hk p q]; exact e3) with ⟨d1, d2⟩ | ⟨p, p1, p2, p3⟩
  · rw [d1, show bb 0 = fun _ => false from funext fun p => bb_0 p, ws_0]
    rcases m3 with m3 | ⟨p, _, c, _⟩
    · exact m3.symm
    · rw [d2 p] at c; cases c
  · rw [p2, ws_one _ _ (by omega)]
    refine mx_one (g := fun p => (wor (M p) : Int)) (P := cut w h M s) (n := 48) (x := 0) (by omega) (fun q _ pq => ?_) (Or.inr ⟨p, p1, p3.1, ?_⟩) m1 m2 m3
    · have := p3.2.1 q pq
      dsimp only at this ⊢
      rw [hk q pq]
      omega
    · rw [hk p p3.1]
theorem c_gain2 (H : HC I L a w h K) {s f : Nat} (hs : s < 2) {x : Int64} {M : Nat → Nat} (hx : bb x = sol M) (l : ltd K M) : FX5_gainOf (f + 2) I L a (zI (s : Int)) x (zI 2) = some (zI (g2 w h M s)) := by
  obtain ⟨y, e, hy⟩ := c_cut H hs hx (ltd_sb l) (ltd_z l H.z)
  have hk : ∀ p, cut w h M s p = true → M p = K p := fun p q => ltd_eq l (cut_sto q)
  have core : FX5_gainOf_j48 (FX5_gainOf (f + 1)) I L a x (zI 2) y (zI ((1 - s : Nat) : Int)) = some (zI (g2 w h M s)) := by
    have e1 := c_gain1 (f := f) H (s := 1 - s) (by omega) hx l
    unfold FX5_gainOf_j48
    rw [show zI 2 - (1 : Int32) = zI 1 from rfl, e1, obind]
    obtain ⟨v, ev, hv⟩ := it_for (f := fun p : Int32 × Int32 => FX5_gainOf_s67 (FX5_gainOf (f + 1)) I L a x (zI 2) y (zI ((1 - s : Nat) : Int)) p.1 p.2) (fun i (v : Int32) => (v, zI (i : Int))) 48 (fun i v => v = zI (fop (mxf (fun p => (wor (M p) : Int) - g1 w h (kst h (kup M p 0)) (1 - s))) (cut w h M s) i (-(g1 w h M (1 - s)))) ∧ -4 ≤ fop (mxf (fun p => (wor (M p) : Int) - g1 w h (kst h (kup M p 0)) (1 - s))) (cut w h M s) i (-(g1 w h M (1 - s))) ∧ fop (mxf (fun p => (wor (M p) : Int) - g1 w h (kst h (kup M p 0)) (1 - s))) (cut w h M s) i (-(g1 w h M (1 - s))) ≤ 4) (Post := fun v => v = zI (g2 w h M s)) (fun i v hi hv => by
      obtain ⟨rfl, v1, v2⟩ := hv
      have hb : bb ((1 : Int64) <<< (Int32.toInt64 (zI (i : Int)) &&& 63)) = fun q => decide (q = i) := funext fun q => by rw [bb_one (by omega)]; simp
      unfold FX5_gainOf_s67 FX5_gainOf_j130L67
      simp (disch := omega) only [zlet, obind, zI_lit, zI_neg, zI_add, zI_sub, zI_mul, zI_div, zI_le, zI_lt, zI_eq, zI_cl, irem, ile_t, ile_f, ilt_t, ilt_f, ieq_t, ieq_f, and_true, true_and, and_false, false_and, and_self, not_true_eq_false, not_false_eq_true, ↓reduceIte, Int.toNat_natCast, tqb_z, tqb_t, tqb_f, lgz, bb_hit hb, hy]
      rw [fop_s]
      cases ep : cut w h M s i
      · rw [if_pos rfl]
        exact Or.inl ⟨_, rfl, by simp, by simpa using v1, by simpa using v2⟩
      · rw [if_neg (by simp)]
        have hyb := bb_and_one (x := y) hb (by rw [hy]; exact ep)
        obtain ⟨x2, e2, hx2, _⟩ := c_fall H (bb_wo hx hyb) (kup_z (ltd_z l H.z) (Or.inl rfl))
        have e3 := c_gain1 (f := f) H (s := 1 - s) (by omega) hx2 (ltd_up l h i)
        have w4 := wor_le (M i)
        have r2 := g1_rg w h (kst h (kup M i 0)) (1 - s)
        rw [e2, obind]
        simp only [show (2 : Int) - 1 = 1 from rfl]
        rw [e3, obind, c_worth H, hyb, ws_one _ _ (by omega), ← hk i ep, zI_sub]
        simp only [if_true]
        rw [zI_mx (g := fun p => (wor (M p) : Int) - g1 w h (kst h (kup M p 0)) (1 - s)) (by omega) (by omega)]
        refine Or.inl ⟨_, rfl, rfl, ?_⟩
        generalize fop (mxf (fun p => (wor (M p) : Int) - g1 w h (kst h (kup M p 0)) (1 - s))) (cut w h M s) i (-(g1 w h M (1 - s))) = X at *
        unfold mxf
        dsimp only
        split <;> omega) (fun v hv => by
      unfold FX5_gainOf_s67
      simp (disch := omega) only [zlet, obind, zI_lit, zI_neg, zI_add, zI_sub, zI_mul, zI_div, zI_le, zI_lt, zI_eq, zI_cl, irem, ile_t, ile_f, ilt_t, ilt_f, ieq_t, ieq_f, and_true, true_and, and_false, false_and, and_self, not_true_eq_false, not_false_eq_true, ↓reduceIte, Int.toNat_natCast, tqb_z, tqb_t, tqb_f]
      exact ⟨_, rfl, hv.1⟩) 0 (zI (-(g1 w h M (1 - s)))) (by omega) (by omega) ⟨rfl, by have := g1_rg w h M (1 - s); simp only [fop]; omega, by have := g1_rg w h M (1 - s); simp only [fop]; omega⟩
    rw [zI_neg]
    refine (congrArg (fun o => Option.bind o _) ev).trans ((obind _ _).trans ?_)
    rw [hv]
  show FX5_gainOfb (FX5_gainOf (f + 1)) I L a (zI (s : Int)) x (zI 2) = _
  unfold FX5_gainOfb
  rw [if_neg (by decide), if_pos (by decide), e, obind, if_neg (by decide)]
  rcases (by omega : s = 0 ∨ s = 1) with rfl | rfl
  · rw [if_pos (by decide)]
    exact core
  · rw [if_neg (by decide)]
    exact core
theorem c_gain (H : HC I L a w h K) {t s f : Nat} (hf : 2 < f) (ht : t ≤ 2) (hs : s < 2) {x : Int64} {M : Nat → Nat} (hx : bb x = sol M) (l : ltd K M) : FX5_gainOf f I L a (zI (s : Int)) x (zI (t : Int)) = some (zI (gn w h t M s)) := by
  obtain ⟨f, rfl⟩ : ∃ g, f = g + 3 := ⟨f - 3, by omega⟩
  unfold gn
  rcases (by omega : t = 0 ∨ t = 1 ∨ t = 2) with rfl | rfl | rfl
  · show FX5_gainOfb (FX5_gainOf (f + 2)) I L a (zI (s : Int)) x (zI ((0 : Nat) : Int)) = _
    unfold FX5_gainOfb
    rw [if_pos (by decide)]
    rfl
  · exact c_gain1 (f := f + 2) H hs hx l
  · exact c_gain2 (f := f + 1) H hs hx l
end DC
