/-! QUERIES: caves, by the class; MIRRORED. -/
section CV
variable {w h : Nat} {K : Nat → Nat}
theorem cmp_48 (k : wh w h) {p : Nat} (hp : air w h K p = true) : (∀ q, decide (q = p) = true → q < 48) ∧ ∀ q, air w h K q = true → q < 48 := ⟨fun q e => by simp only [decide_eq_true_eq] at e; rw [e]; exact air_48 k hp, fun q e => air_48 k e⟩
theorem cmp_self (p : Nat) : cmp w h K p p = true := flo_in (by simp)
theorem cmp_air {p q : Nat} (hp : air w h K p = true) (e : cmp w h K p q = true) : air w h K q = true := by
  rcases flo_sub e with r | r
  · simp only [decide_eq_true_eq] at r; rw [r]; exact hp
  · exact r
theorem cmp_step (k : wh w h) {p q r : Nat} (hp : air w h K p = true) (e : cmp w h K p q = true) (a : adj q r) (o : air w h K r = true) : cmp w h K p r = true := flo_closed (cmp_48 k hp).1 (cmp_48 k hp).2 e a o
theorem cmp_sub (k : wh w h) {p q : Nat} (hp : air w h K p = true) (e : cmp w h K p q = true) : ∀ r, cmp w h K q r = true → cmp w h K p r = true := flo_least (fun r hr => by simp only [decide_eq_true_eq] at hr; rw [hr]; exact e) (fun s r hs a o => cmp_step k hp hs a o)
theorem cmp_back (k : wh w h) {p q : Nat} (hp : air w h K p = true) (e : cmp w h K p q = true) : cmp w h K q p = true := by
  have := flo_leastP (O := air w h K) (X := fun q => decide (q = p)) (Y := fun r => air w h K r = true ∧ cmp w h K r p = true) (fun r hr => by simp only [decide_eq_true_eq] at hr; rw [hr]; exact ⟨hp, cmp_self p⟩) (fun r t hr a o => ⟨o, cmp_sub k o (cmp_step k o (cmp_self t) (adj_symm a) hr.1) p hr.2⟩) q e
  exact this.2
theorem cmp_eq (k : wh w h) {p q : Nat} (hp : air w h K p = true) (e : cmp w h K p q = true) : cmp w h K q = cmp w h K p := set_sub_eq (cmp_sub k hp e) (cmp_sub k (cmp_air hp e) (cmp_back k hp e))
/-- cells that are the first of their part -/
def hd (w h : Nat) (K : Nat → Nat) (p : Nat) : Bool := air w h K p && fst (cmp w h K p) p
def szc (w h : Nat) (K : Nat → Nat) (p : Nat) : Nat := if air w h K p then fb_ct (cmp w h K p) 64 else 0
theorem r_caves {J : tq_PI} (R : RW J w h) (G : GR J w h 0 K) (M : tq_PL) (u : Int32) : ∃ (m : Nat) (J2 : tq_PI), tq_it (fun p : Int32 × Int32 × Int32 × tq_PI => FX12_caves_s61 p.2.2.2 M 136 u p.1 p.2.1 p.2.2.1) tq_N (zI ((0 : Nat) : Int), zI ((0 : Nat) : Int), zI ((0 : Nat) : Int), J) = some (zI (fb_ct (hd w h K) 64 : Nat), zI (m : Int), J2) ∧ IsM (szc w h K) m ∧ FP J J2 := by
  have k := R.2.2
  have h48 := wh_le k
  have kz : ∀ p, (zI ((K p : Nat) : Int) = zI 0) = (K p = 0) := fun p => by
    have := G.2.1 p
    rw [zI_eq (by omega) (by omega)]
    simp
  obtain ⟨⟨v1, v2, v3⟩, e, F, hv1, m, hv2, m1, m2⟩ := it_for (f := fun p : Int32 × Int32 × Int32 × tq_PI => FX12_caves_s61 p.2.2.2 M 136 u p.1 p.2.1 p.2.2.1) (fun i (x : Int32 × Int32 × tq_PI) => (x.1, x.2.1, zI (i : Int), x.2.2)) (w * h) (fun i x => FC 141 J x.2.2 ∧ x.1 = zI (fb_ct (fun c => hd w h K (pl w c)) i : Nat) ∧ ∃ b : Nat, b ≤ 64 ∧ x.2.1 = zI (b : Int) ∧ (∀ c, c < i → szc w h K (pl w c) ≤ b) ∧ (b = 0 ∨ ∃ c, c < i ∧ szc w h K (pl w c) = b)) (Post := fun x => FC 141 J x.2.2 ∧ x.1 = zI (fb_ct (fun c => hd w h K (pl w c)) (w * h) : Nat) ∧ ∃ b : Nat, x.2.1 = zI (b : Int) ∧ (∀ c, c < w * h → szc w h K (pl w c) ≤ b) ∧ (b = 0 ∨ ∃ c, c < w * h ∧ szc w h K (pl w c) = b)) (fun i x hi hx => by
    obtain ⟨n, x, J1⟩ := x
    obtain ⟨F, s1, b, b64, s2, s3, s4⟩ := hx
    dsimp only at F s1 s2 ⊢
    subst s1 s2
    have R1 := R.fc F (by omega)
    have G1 := G.fc F (by omega)
    have l2 := fb_ct_le (fun c => hd w h K (pl w c)) i
    have ha : air w h K (pl w i) = decide (K (pl w i) = 0) := by simp [air, pl_ar k hi]
    unfold FX12_caves_s61 FX12_caves_j106L61 FX12_caves_j122L61 FX12_caves_j124L61
    simp (disch := omega) only [zlet, obind, zI_lit, zI_neg, zI_add, zI_sub, zI_mul, zI_div, zI_le, zI_lt, zI_eq, zI_cl, irem, ile_t, ile_f, ilt_t, ilt_f, ieq_t, ieq_f, and_true, true_and, and_false, false_and, and_self, not_true_eq_false, not_false_eq_true, ↓reduceIte, Int.toNat_natCast, tqb_z, tqb_t, tqb_f, r_many R1, r_kind0 k G1, kz]
    by_cases q : K (pl w i) = 0
    · rw [if_pos q]
      simp only [q, decide_true] at ha
      obtain ⟨J2, e2, F2, M2⟩ := r_cave R1 G1 M hi
      have e3 := r_isFirst k M2 M hi
      have l3 := fb_ct_le (cmp w h K (pl w i)) 64
      simp only [e2, e3, obind]
      have hh : hd w h K (pl w i) = fst (cmp w h K (pl w i)) (pl w i) := by unfold hd; rw [ha, Bool.true_and]
      have hz : szc w h K (pl w i) = fb_ct (cmp w h K (pl w i)) 64 := by unfold szc; rw [ha, if_pos rfl]
      have fin : ∀ n1 : Int32, n1 = zI (fb_ct (fun c => hd w h K (pl w c)) (i + 1) : Nat) → ∀ o : Option ((Int32 × Int32 × Int32 × tq_PI) ⊕ (Int32 × Int32 × tq_PI)), o = (if zI (fb_ct (cmp w h K (pl w i)) 64 : Nat) ≤ zI (b : Int) then some (.inl (n1, zI (b : Int), zI ((i : Int) + 1), J2)) else some (.inl (n1, zI (fb_ct (cmp w h K (pl w i)) 64 : Nat), zI ((i : Int) + 1), J2))) → (∃ s2 : Int32 × Int32 × tq_PI, o = some (.inl (s2.1, s2.2.1, zI ((i + 1 : Nat) : Int), s2.2.2)) ∧ FC 141 J s2.2.2 ∧ s2.1 = zI (fb_ct (fun c => hd w h K (pl w c)) (i + 1) : Nat) ∧ ∃ b : Nat, b ≤ 64 ∧ s2.2.1 = zI (b : Int) ∧ (∀ c, c < i + 1 → szc w h K (pl w c) ≤ b) ∧ (b = 0 ∨ ∃ c, c < i + 1 ∧ szc w h K (pl w c) = b)) := fun n1 hn1 o ho => by
        simp (disch := omega) only [zI_le] at ho
        by_cases q2 : fb_ct (cmp w h K (pl w i)) 64 ≤ b
        · rw [if_pos (by omega)] at ho
          refine ⟨(n1, zI (b : Int), J2), ho, F.tr F2, hn1, b, b64, rfl, fun c hc => ?_, ?_⟩
          · by_cases ci : c = i
            · rw [ci, hz]; exact q2
            · exact s3 c (by omega)
          · rcases s4 with s4 | ⟨c, hc, s4⟩
            · exact Or.inl s4
            · exact Or.inr ⟨c, by omega, s4⟩
        · rw [if_neg (by omega)] at ho
          refine ⟨(n1, zI (fb_ct (cmp w h K (pl w i)) 64 : Nat), J2), ho, F.tr F2, hn1, _, l3, rfl, fun c hc => ?_, Or.inr ⟨i, by omega, hz⟩⟩
          by_cases ci : c = i
          · rw [ci, hz]; exact Nat.le_refl _
          · have := s3 c (by omega); omega
      cases qf : fst (cmp w h K (pl w i)) (pl w i)
      · rw [if_pos rfl]
        refine Or.inl (fin _ ?_ _ rfl)
        rw [fb_ct_succ, hh, qf]
        rfl
      · rw [if_neg (show ¬ true = false by simp)]
        refine Or.inl (fin _ ?_ _ rfl)
        rw [fb_ct_succ, hh, qf]
        rfl
    · rw [if_neg q]
      have hh : hd w h K (pl w i) = false := by unfold hd; rw [ha]; simp [q]
      have hz : szc w h K (pl w i) = 0 := by unfold szc; rw [ha]; simp [q]
      refine Or.inl ⟨(zI (fb_ct (fun c => hd w h K (pl w c)) i : Nat), zI (b : Int), J1), rfl, F, ?_, b, b64, rfl, fun c hc => ?_, ?_⟩
      · rw [fb_ct_succ, hh]; simp
      · by_cases ci : c = i
        · rw [ci, hz]; omega
        · exact s3 c (by omega)
      · rcases s4 with s4 | ⟨c, hc, s4⟩
        · exact Or.inl s4
        · exact Or.inr ⟨c, by omega, s4⟩) (fun x hx => by
    obtain ⟨F, s1, b, b64, s2, s3, s4⟩ := hx
    have R1 := R.fc F (by omega)
    unfold FX12_caves_s61
    simp (disch := omega) only [zlet, obind, zI_lit, zI_neg, zI_add, zI_sub, zI_mul, zI_div, zI_le, zI_lt, zI_eq, zI_cl, irem, ile_t, ile_f, ilt_t, ilt_f, ieq_t, ieq_f, and_true, true_and, and_false, false_and, and_self, not_true_eq_false, not_false_eq_true, ↓reduceIte, Int.toNat_natCast, tqb_z, tqb_t, tqb_f, r_many R1]
    exact ⟨_, rfl, F, s1, b, s2, s3, s4⟩) 0 (zI ((0 : Nat) : Int), zI ((0 : Nat) : Int), J) (by omega) (by omega) ⟨FC.rf, rfl, 0, by omega, rfl, fun c hc => absurd hc (Nat.not_lt_zero c), Or.inl rfl⟩
  dsimp only at F hv1 hv2
  have zh : ∀ p, hd w h K p = true → ar w h p = true := fun p q => by
    simp only [hd, air, Bool.and_eq_true] at q
    exact q.1.1
  rw [ct_all k (hd w h K) zh] at hv1
  subst hv1 hv2
  refine ⟨m, v3, e, ⟨fun p => ?_, ?_⟩, F.fp (by unfold psl; omega)⟩
  · cases ap : ar w h p
    · unfold szc air; rw [ap]; simp
    · have := m1 (cl w p) (cl_lt k ap)
      rw [pl_cl k ap] at this
      exact this
  · rcases m2 with m2 | ⟨c, _, m2⟩
    · exact Or.inl m2
    · exact Or.inr ⟨_, m2⟩
/-- a set of whole parts -/
def whl (w h : Nat) (K : Nat → Nat) (S : Nat → Bool) : Prop := (∀ p, S p = true → air w h K p = true) ∧ ∀ p q, S p = true → cmp w h K p q = true → S q = true
theorem whl_flo (k : wh w h) {S : Nat → Bool} (hS : whl w h K S) {m : Nat} (hm : S m = true) : flo S (fun q => decide (q = m)) = cmp w h K m := by
  have am := hS.1 m hm
  symm
  refine flo_eq (cmp_48 k am).1 (fun p q => air_48 k (hS.1 p q)) (fun p q => by simp only [decide_eq_true_eq] at q; rw [q]; exact cmp_self m) (fun q p e a o => cmp_step k am e a (hS.1 p o)) (fun Y h1 h2 => ?_)
  have := flo_leastP (O := air w h K) (X := fun q => decide (q = m)) (Y := fun r => S r = true ∧ Y r = true) (fun r hr => by
    have hr2 := hr
    simp only [decide_eq_true_eq] at hr2
    exact ⟨by rw [hr2]; exact hm, h1 r hr⟩) (fun r t hr a o => by
    have st : S t = true := hS.2 r t hr.1 (cmp_step k (hS.1 r hr.1) (cmp_self r) a o)
    exact ⟨st, h2 r t hr.2 a st⟩)
  exact fun p hp => (this p hp).2
theorem whl_minus (k : wh w h) {S : Nat → Bool} (hS : whl w h K S) {m : Nat} (hm : S m = true) : whl w h K (fun p => S p && !cmp w h K m p) := by
  have am := hS.1 m hm
  refine ⟨fun p q => ?_, fun p q hp e => ?_⟩
  · simp only [Bool.and_eq_true] at q
    exact hS.1 p q.1
  · simp only [Bool.and_eq_true, Bool.not_eq_true'] at hp ⊢
    refine ⟨hS.2 p q hp.1 e, ?_⟩
    cases c : cmp w h K m q
    · rfl
    · have e1 := cmp_eq k am c
      have e2 := cmp_eq k (hS.1 p hp.1) e
      have : cmp w h K m p = true := by rw [← e1, e2]; exact cmp_self p
      rw [this] at hp
      cases hp.2
/-- one step of the class's search -/
theorem c_cave_step (k : wh w h) {I : tq_PI} {L : tq_PL} {x : Int64} (hS : whl w h K (bb x)) (hx : ¬ x = 0) : ∃ m y, bb x m = true ∧ (∀ q, q < m → bb x q = false) ∧ FX11_flood I L (FX11_lowest I L x) x = some y ∧ bb y = cmp w h K m ∧ bb (x &&& (y ^^^ (-1))) = fun p => bb x p && !cmp w h K m p := by
  obtain ⟨m, _, h1, h2⟩ := bb_least hx
  obtain ⟨y, e, hy⟩ := c_flood (I := I) (L := L) (FX11_lowest I L x) x (fun p q => air_48 k (hS.1 p q))
  have hy2 : bb y = cmp w h K m := by rw [hy, c_low h1 h2, whl_flo k hS h1]
  exact ⟨m, y, h1, h2, e, hy2, funext fun p => by rw [bb_minus, hy2]⟩
theorem air_whl (k : wh w h) : whl w h K (air w h K) := ⟨fun _ q => q, fun p q hp e => cmp_air hp e⟩
theorem c_caveCount {I : tq_PI} {L : tq_PL} {a : Nat} (H : HC I L a w h K) : FX3_caveCount I L a = some (zI (fb_ct (hd w h K) 64 : Nat)) := by
  have k := H.k
  obtain ⟨v, e, hv⟩ := it_for (f := fun p : Int64 × Int32 × Int32 => FX3_caveCount_s10 I L p.1 p.2.1 p.2.2) (fun i (s : Int64 × Int32) => (s.1, s.2, zI (i : Int))) 48 (fun i s => whl w h K (bb s.1) ∧ s.2 = zI (fb_ct (fun p => hd w h K p && !bb s.1 p) 64 : Nat) ∧ fb_ct (bb s.1) 64 + i ≤ 48) (Post := fun v => v = zI (fb_ct (hd w h K) 64 : Nat)) (fun i s hi hs => by
    obtain ⟨x, n⟩ := s
    obtain ⟨h1, h2, h3⟩ := hs
    dsimp only at h1 h2 h3 ⊢
    subst h2
    unfold FX3_caveCount_s10
    simp (disch := omega) only [zlet, obind, zI_lit, zI_neg, zI_add, zI_sub, zI_mul, zI_div, zI_le, zI_lt, zI_eq, zI_cl, irem, ile_t, ile_f, ilt_t, ilt_f, ieq_t, ieq_f, and_true, true_and, and_false, false_and, and_self, not_true_eq_false, not_false_eq_true, ↓reduceIte, Int.toNat_natCast, tqb_z, tqb_t, tqb_f, lgz]
    by_cases q : x = 0
    · rw [if_pos q]
      refine Or.inr ⟨_, rfl, ?_⟩
      congr 2
      refine fb_ct_cong fun p _ => ?_
      rw [q, bb_0]; simp
    · rw [if_neg q]
      obtain ⟨m, y, m1, m2, ey, hy, hr⟩ := c_cave_step (I := I) (L := L) k h1 q
      have am := h1.1 m m1
      have m64 : m < 64 := by have := air_48 k am; omega
      simp only [ey, obind]
      refine Or.inl ⟨(x &&& (y ^^^ (-1)), zI ((fb_ct (fun p => hd w h K p && !bb x p) 64 : Nat) + 1)), rfl, ?_, ?_, ?_⟩
      · dsimp only; rw [hr]; exact whl_minus k h1 m1
      · dsimp only
        have : (fun p => hd w h K p && !bb (x &&& (y ^^^ (-1))) p) = pup (fun p => hd w h K p && !bb x p) m true := funext fun p => by
          rw [hr]
          unfold pup
          dsimp only
          by_cases pm : p = m
          · rw [if_pos pm, pm, m1, cmp_self]
            have : hd w h K m = true := by
              unfold hd fst
              rw [am, Bool.true_and, decide_eq_true_eq]
              intro r hr2
              cases c : cmp w h K m r
              · rfl
              · have := h1.2 m r m1 c; rw [m2 r hr2] at this; cases this
            rw [this]; rfl
          · rw [if_neg pm]
            cases hp : hd w h K p
            · rfl
            · cases xp : bb x p
              · rfl
              · cases cp : cmp w h K m p
                · rfl
                · have ap : air w h K p = true := cmp_air am cp
                  unfold hd fst at hp
                  rw [ap, Bool.true_and, decide_eq_true_eq] at hp
                  have lt : m < p := by
                    by_cases r : p < m
                    · rw [m2 p r] at xp; cases xp
                    · omega
                  have := hp m lt
                  rw [cmp_eq k am cp, cmp_self] at this
                  cases this
        rw [this, ct_up1 m64 (by simp [m1])]
        rfl
      · dsimp only
        have := ct_lt (n := 64) (q := m) (P := bb (x &&& (y ^^^ (-1)))) (Q := bb x) (fun p _ r => by rw [hr] at r; simp only [Bool.and_eq_true] at r; exact r.1) m64 m1 (by rw [hr]; simp [cmp_self])
        omega) (fun s hs => by
    obtain ⟨x, n⟩ := s
    obtain ⟨h1, h2, h3⟩ := hs
    dsimp only at h1 h2 h3 ⊢
    subst h2
    unfold FX3_caveCount_s10
    simp (disch := omega) only [zlet, obind, zI_lit, zI_neg, zI_add, zI_sub, zI_mul, zI_div, zI_le, zI_lt, zI_eq, zI_cl, irem, ile_t, ile_f, ilt_t, ilt_f, ieq_t, ieq_f, and_true, true_and, and_false, false_and, and_self, not_true_eq_false, not_false_eq_true, ↓reduceIte, Int.toNat_natCast, tqb_z, tqb_t, tqb_f]
    refine ⟨_, rfl, ?_⟩
    congr 2
    have z : fb_ct (bb x) 64 = 0 := by omega
    rw [fb_ct_zero] at z
    refine fb_ct_cong fun p hp => ?_
    rw [z p hp]; simp) 0 (FX3_air I L a, zI ((0 : Nat) : Int)) (by omega) (by omega) ⟨by rw [c_air H]; exact air_whl k, by
      dsimp only
      congr 2
      symm
      refine fb_ct_zero.2 fun p _ => ?_
      rw [c_air H]
      unfold hd
      cases air w h K p <;> simp, by
      dsimp only
      rw [c_air H]
      have := ct_48 (fun p q => air_48 k q) (U := air w h K)
      omega⟩
  unfold FX3_caveCount
  rw [zlet]
  refine (congrArg (fun o => Option.bind o _) e).trans ((obind _ _).trans ?_)
  rw [hv]
theorem c_largest {I : tq_PI} {L : tq_PL} {a : Nat} (H : HC I L a w h K) : ∃ m : Nat, FX3_largestCave I L a = some (zI (m : Int)) ∧ IsM (szc w h K) m := by
  have k := H.k
  obtain ⟨v, e, mm, hv, hM⟩ := it_for (f := fun p : Int64 × Int32 × Int32 => FX3_largestCave_s10 I L p.1 p.2.1 p.2.2) (fun i (s : Int64 × Int32) => (s.1, s.2, zI (i : Int))) 48 (fun i s => whl w h K (bb s.1) ∧ (∃ b : Nat, b ≤ 64 ∧ s.2 = zI (b : Int) ∧ (∀ p, bb s.1 p = false → szc w h K p ≤ b) ∧ (b = 0 ∨ ∃ p, szc w h K p = b)) ∧ fb_ct (bb s.1) 64 + i ≤ 48) (Post := fun v => ∃ m : Nat, v = zI (m : Int) ∧ IsM (szc w h K) m) (fun i s hi hs => by
    obtain ⟨x, n⟩ := s
    obtain ⟨h1, ⟨b, b64, h2, h4, h5⟩, h3⟩ := hs
    dsimp only at h1 h2 h3 h4 ⊢
    subst h2
    unfold FX3_largestCave_s10
    simp (disch := omega) only [zlet, obind, zI_lit, zI_neg, zI_add, zI_sub, zI_mul, zI_div, zI_le, zI_lt, zI_eq, zI_cl, irem, ile_t, ile_f, ilt_t, ilt_f, ieq_t, ieq_f, and_true, true_and, and_false, false_and, and_self, not_true_eq_false, not_false_eq_true, ↓reduceIte, Int.toNat_natCast, tqb_z, tqb_t, tqb_f, lgz, bc_eq]
    by_cases q : x = 0
    · rw [if_pos q]
      exact Or.inr ⟨_, rfl, b, rfl, fun p => h4 p (by rw [q, bb_0]), h5⟩
    · rw [if_neg q]
      obtain ⟨m, y, m1, m2, ey, hy, hr⟩ := c_cave_step (I := I) (L := L) k h1 q
      have am := h1.1 m m1
      have m64 : m < 64 := by have := air_48 k am; omega
      simp only [ey, obind, hy]
      have l3 := fb_ct_le (cmp w h K m) 64
      have sz : ∀ p, cmp w h K m p = true → szc w h K p = fb_ct (cmp w h K m) 64 := fun p hp => by
        unfold szc
        rw [cmp_air am hp, if_pos rfl, cmp_eq k am hp]
      simp (disch := omega) only [zI_lt]
      have cnt := ct_lt (n := 64) (q := m) (P := bb (x &&& (y ^^^ (-1)))) (Q := bb x) (fun p _ r => by rw [hr] at r; simp only [Bool.and_eq_true] at r; exact r.1) m64 m1 (by rw [hr]; simp [cmp_self])
      have nw : ∀ p, bb (x &&& (y ^^^ (-1))) p = false → bb x p = false ∨ cmp w h K m p = true := fun p hp => by
        rw [hr] at hp
        dsimp only at hp
        cases xp : bb x p
        · exact Or.inl rfl
        · rw [xp] at hp
          exact Or.inr (by simpa using hp)
      by_cases q2 : b < fb_ct (cmp w h K m) 64
      · rw [if_pos (by omega)]
        refine Or.inl ⟨(x &&& (y ^^^ (-1)), zI (fb_ct (cmp w h K m) 64 : Nat)), rfl, by dsimp only; rw [hr]; exact whl_minus k h1 m1, ⟨_, l3, rfl, fun p hp => ?_, Or.inr ⟨m, sz m (cmp_self m)⟩⟩, by dsimp only; omega⟩
        rcases nw p hp with r | r
        · have := h4 p r; omega
        · rw [sz p r]; exact Nat.le_refl _
      · rw [if_neg (by omega)]
        refine Or.inl ⟨(x &&& (y ^^^ (-1)), zI (b : Int)), rfl, by dsimp only; rw [hr]; exact whl_minus k h1 m1, ⟨b, b64, rfl, fun p hp => ?_, h5⟩, by dsimp only; omega⟩
        rcases nw p hp with r | r
        · exact h4 p r
        · rw [sz p r]; omega) (fun s hs => by
    obtain ⟨x, n⟩ := s
    obtain ⟨h1, ⟨b, b64, h2, h4, h5⟩, h3⟩ := hs
    dsimp only at h1 h2 h3 h4 ⊢
    subst h2
    unfold FX3_largestCave_s10
    simp (disch := omega) only [zlet, obind, zI_lit, zI_neg, zI_add, zI_sub, zI_mul, zI_div, zI_le, zI_lt, zI_eq, zI_cl, irem, ile_t, ile_f, ilt_t, ilt_f, ieq_t, ieq_f, and_true, true_and, and_false, false_and, and_self, not_true_eq_false, not_false_eq_true, ↓reduceIte, Int.toNat_natCast, tqb_z, tqb_t, tqb_f]
    have z : fb_ct (bb x) 64 = 0 := by omega
    rw [fb_ct_zero] at z
    refine ⟨_, rfl, b, rfl, fun p => h4 p ?_, h5⟩
    by_cases p64 : p < 64
    · exact z p p64
    · exact bb_big (by omega)) 0 (FX3_air I L a, zI ((0 : Nat) : Int)) (by omega) (by omega) ⟨by rw [c_air H]; exact air_whl k, ⟨0, by omega, rfl, fun p hp => by
      dsimp only at hp
      rw [c_air H] at hp
      unfold szc; rw [hp]; simp, Or.inl rfl⟩, by
      dsimp only
      rw [c_air H]
      have := ct_48 (fun p q => air_48 k q) (U := air w h K)
      omega⟩
  refine ⟨mm, ?_, hM⟩
  unfold FX3_largestCave
  rw [zlet]
  refine (congrArg (fun o => Option.bind o _) e).trans ((obind _ _).trans ?_)
  rw [hv]
end CV
