/-! LAYERS, by the class: the cells to which a side comes by so many stones. -/
theorem flo_leastP {O X : Nat → Bool} {Y : Nat → Prop} (h : ∀ p, X p = true → Y p) (hc : ∀ q p, Y q → adj q p → O p = true → Y p) : ∀ p, flo O X p = true → Y p := by
  have : ∀ i, ∀ p, qz_it (gro O) i X p = true → Y p := by
    intro i
    induction i with
    | zero => exact h
    | succ i ih =>
      intro p hp
      rw [qz_it_succ] at hp
      rcases gro_iff.1 hp with hp | ⟨⟨q, hq, a⟩, o⟩
      · exact ih p hp
      · exact hc q p (ih q hq) a o
  exact this 48
def IsL (w h : Nat) (M : Nat → Nat) (s t : Nat) (X : Nat → Bool) : Prop := ∀ p, X p = true ↔ ∃ n u, u ≤ t ∧ Wk w h M s n u p
theorem IsL_one {w h s t : Nat} {M : Nat → Nat} {X Y : Nat → Bool} (h1 : IsL w h M s t X) (h2 : IsL w h M s t Y) : X = Y := set_sub_eq (fun p q => (h2 p).2 ((h1 p).1 q)) (fun p q => (h1 p).2 ((h2 p).1 q))
theorem cst_air {w h : Nat} {M : Nat → Nat} {p : Nat} (q : air w h M p = true) : ar w h p = true ∧ M p ≠ 4 ∧ cst M p = 0 := by
  simp only [air, Bool.and_eq_true, decide_eq_true_eq] at q
  exact ⟨q.1, by omega, by simp [cst, sto, q.2]⟩
theorem air_of {w h : Nat} {M : Nat → Nat} {p : Nat} (le : M p ≤ 4) (ha : ar w h p = true) (h4 : M p ≠ 4) (hs : sto M p = false) : air w h M p = true := by
  simp only [sto, decide_eq_false_iff_not] at hs
  simp only [air, Bool.and_eq_true, decide_eq_true_eq]
  exact ⟨ha, by omega⟩
theorem lay0 {w h s : Nat} {M : Nat → Nat} (k : wh w h) (le : ∀ p, M p ≤ 4) : IsL w h M s 0 (rea w h M s) := fun p => by
  have hE : ∀ p, (edg w h s p && air w h M p) = true → p < 48 := fun p q => by
    simp only [edg, Bool.and_eq_true] at q
    exact ar_lt k.2.2.2 q.1.1
  constructor
  · exact flo_leastP (Y := fun p => ∃ n u, u ≤ 0 ∧ Wk w h M s n u p) (fun p q => by
      rw [Bool.and_eq_true] at q
      obtain ⟨a1, a2, a3⟩ := cst_air q.2
      exact ⟨1, 0, Nat.le_refl _, q.1, a2, a3.symm⟩) (fun q p ⟨n, u, hu, wk⟩ a o => by
      obtain ⟨a1, a2, a3⟩ := cst_air o
      refine ⟨n + 1, u + cst M p, by omega, Wk_s wk a a1 a2⟩) p
  · rintro ⟨n, u, hu, wk⟩
    have : ∀ n p, Wk w h M s n 0 p → rea w h M s p = true := by
      intro n
      induction n with
      | zero => intro p q; exact q.elim
      | succ n ih =>
        intro p q
        have h4 := Wk_ar q
        match n, q with
        | 0, q =>
          have hs : sto M p = false := by
            cases e : sto M p
            · rfl
            · have := q.2.2; simp [cst, e] at this
          exact flo_in (by rw [q.1, air_of (le p) h4.1 h4.2 hs]; rfl)
        | n + 1, ⟨q, u, q1, a, b, c, e⟩ =>
          have hu : u = 0 := by omega
          have hs : sto M p = false := by
            cases e2 : sto M p
            · rfl
            · simp [cst, e2] at e
          rw [hu] at q1
          exact flo_closed hE (fun p q => air_48 k q) (ih q q1) a (air_of (le p) h4.1 h4.2 hs)
    have hu0 : u = 0 := by omega
    rw [hu0] at wk
    exact this n p wk
def nl (w h : Nat) (M : Nat → Nat) (s : Nat) (X : Nat → Bool) : Nat → Bool := flo (air w h M) (fun p => X p || (sto M p && (edg w h s p || nxt X p)))
theorem lay_s {w h s t : Nat} {M : Nat → Nat} (k : wh w h) (le : ∀ p, M p ≤ 4) (z : ∀ p, ar w h p = false → M p = 0) {X : Nat → Bool} (hX : IsL w h M s t X) : IsL w h M s (t + 1) (nl w h M s X) := fun p => by
  have sto_ar : ∀ p, sto M p = true → ar w h p = true ∧ M p ≠ 4 ∧ cst M p = 1 := fun p q => by
    have q2 := q
    simp only [sto, decide_eq_true_eq] at q
    refine ⟨?_, by omega, by simp [cst, q2]⟩
    cases e : ar w h p
    · have := z p e; omega
    · rfl
  have h48 : ∀ p, (X p || (sto M p && (edg w h s p || nxt X p))) = true → p < 48 := fun p q => by
    rw [Bool.or_eq_true, Bool.and_eq_true] at q
    rcases q with q | q
    · obtain ⟨n, u, _, wk⟩ := (hX p).1 q
      exact ar_lt k.2.2.2 (Wk_ar wk).1
    · exact ar_lt k.2.2.2 (sto_ar p q.1).1
  constructor
  · exact flo_leastP (Y := fun p => ∃ n u, u ≤ t + 1 ∧ Wk w h M s n u p) (fun p q => by
      rw [Bool.or_eq_true, Bool.and_eq_true, Bool.or_eq_true, nxt_iff] at q
      rcases q with q | ⟨q1, q2 | ⟨r, q2, q3⟩⟩
      · obtain ⟨n, u, hu, wk⟩ := (hX p).1 q
        exact ⟨n, u, by omega, wk⟩
      · obtain ⟨a1, a2, a3⟩ := sto_ar p q1
        exact ⟨1, 1, by omega, q2, a2, a3.symm⟩
      · obtain ⟨a1, a2, a3⟩ := sto_ar p q1
        obtain ⟨n, u, hu, wk⟩ := (hX r).1 q2
        exact ⟨n + 1, u + cst M p, by omega, Wk_s wk q3 a1 a2⟩) (fun q p ⟨n, u, hu, wk⟩ a o => by
      obtain ⟨a1, a2, a3⟩ := cst_air o
      exact ⟨n + 1, u + cst M p, by omega, Wk_s wk a a1 a2⟩) p
  · rintro ⟨n, u, hu, wk⟩
    have : ∀ n u p, u ≤ t + 1 → Wk w h M s n u p → nl w h M s X p = true := by
      intro n
      induction n with
      | zero => intro u p _ q; exact q.elim
      | succ n ih =>
        intro u p hu q
        have h4 := Wk_ar q
        by_cases ut : u ≤ t
        · exact flo_in (by rw [(hX p).2 ⟨n + 1, u, ut, q⟩]; rfl)
        · match n, q with
          | 0, q =>
            have hs : sto M p = true := by
              cases e : sto M p
              · have := q.2.2; simp [cst, e] at this; omega
              · rfl
            exact flo_in (by rw [hs, q.1]; simp)
          | n + 1, ⟨r, v, q1, a, b, c, e⟩ =>
            cases hs : sto M p
            · have hv : u = v := by simp [cst, hs] at e; exact e
              exact flo_closed h48 (fun p q => air_48 k q) (ih v r (by omega) q1) a (air_of (le p) h4.1 h4.2 hs)
            · have hv : u = v + 1 := by simp [cst, hs] at e; exact e
              have : nxt X p = true := nxt_iff.2 ⟨r, (hX r).2 ⟨n + 1, v, by omega, q1⟩, a⟩
              exact flo_in (by rw [hs, this]; simp)
    exact this n u p hu wk
theorem lay_up {w h s t : Nat} {M : Nat → Nat} {X Y : Nat → Bool} (hX : IsL w h M s t X) (hY : IsL w h M s (t + 1) Y) : ∀ p, X p = true → Y p = true := fun p q => by
  obtain ⟨n, u, hu, wk⟩ := (hX p).1 q
  exact (hY p).2 ⟨n, u, by omega, wk⟩
theorem lay_end {w h s t : Nat} {M : Nat → Nat} (k : wh w h) (le : ∀ p, M p ≤ 4) (z : ∀ p, ar w h p = false → M p = 0) {X : Nat → Bool} (hX : IsL w h M s t X) (e : nl w h M s X = X) : ∀ n u p, Wk w h M s n u p → X p = true := by
  have : ∀ m, IsL w h M s (t + m) X := by
    intro m
    induction m with
    | zero => exact hX
    | succ m ih =>
      have := lay_s k le z ih
      rw [e] at this
      exact this
  intro n u p wk
  exact (this u p).2 ⟨n, u, by omega, wk⟩
section LY
variable {I : tq_PI} {L : tq_PL} {a w h : Nat} {K : Nat → Nat}
theorem sb_le {M : Nat → Nat} (H : HC I L a w h K) (hM : sb K M) : ∀ p, M p ≤ 4 := fun p => by
  have := H.le p
  rcases hM p with e | e | e <;> omega
theorem c_nl (H : HC I L a w h K) {s : Nat} (hs : s < 2) {x y : Int64} {M : Nat → Nat} (hx : bb x = sol M) (hM : sb K M) (zM : ∀ p, ar w h p = false → M p = 0) : ∃ v, FX3_nextLayer I L a (zI (s : Int)) y x = some v ∧ bb v = nl w h M s (bb y) := by
  have ho := c_open H hx
  obtain ⟨v, e, hv⟩ := c_flood (I := I) (L := L) (y ||| ((FX3_stones I L a &&& x) &&& (FX3_edge I L a (zI (s : Int)) ||| FX11_nextTo I L y))) (L a 2 &&& (x ^^^ (-1))) (fun p q => by rw [ho] at q; exact air_48 H.k q)
  refine ⟨v, ?_, ?_⟩
  · unfold FX3_nextLayer
    simp only [zlet]
    rw [e, obind]
  · rw [hv, ho]
    unfold nl
    congr 1
    funext p
    rw [bb_or, bb_and, bb_and, bb_or, c_sto H, hx, c_edge H hs, ← sb_sto hM]
    cases q : sto M p
    · rfl
    · have : sol M p = true := by rw [sb_sto hM] at q; simp only [Bool.and_eq_true] at q; exact q.2
      rw [c_nxt y (H.s48 zM this)]
theorem bb_meet {x y : Int64} : (x &&& y) = 0 ↔ ∀ p, bb x p = true → bb y p = true → False := by
  rw [bb_eq0]
  constructor
  · intro h p h1 h2
    have p64 : p < 64 := Nat.not_le.mp fun r => by rw [bb_big r] at h1; cases h1
    have := h p p64
    rw [bb_and, h1, h2] at this
    cases this
  · intro h p _
    rw [bb_and]
    cases e1 : bb x p
    · rfl
    · cases e2 : bb y p
      · rfl
      · exact (h p e1 e2).elim
theorem bb_meet_ne {x y : Int64} (h : ¬ (x &&& y) = 0) : ∃ p, bb x p = true ∧ bb y p = true := by
  refine Classical.byContradiction fun q => h (bb_meet.2 fun p h1 h2 => q ⟨p, h1, h2⟩)
theorem c_few (H : HC I L a w h K) {s : Nat} (hs : s < 2) {x g : Int64} {M : Nat → Nat} {G : Nat → Bool} (hx : bb x = sol M) (hM : sb K M) (zM : ∀ p, ar w h p = false → M p = 0) (hg : bb g = G) : ∃ r : Int, FX3_fewestStones I L a (zI (s : Int)) g x = some (zI r) ∧ Few w h M s G r := by
  have k := H.k
  have le := sb_le H hM
  obtain ⟨y0, e0, hy0⟩ := c_reached H hs hx
  obtain ⟨b, e1, r, hb, hr⟩ := it_for (f := fun p : Int64 × Int32 => FX3_fewestStones_s12 I L a (zI (s : Int)) g x p.1 p.2) (fun i (y : Int64) => (y, zI (i : Int))) 49 (fun i y => IsL w h M s i (bb y) ∧ (∀ u, u < i → ∀ p n, G p = true → ¬ Wk w h M s n u p) ∧ i ≤ fb_ct (bb y) 64) (Post := fun b => ∃ r : Int, b = .inr (zI r) ∧ Few w h M s G r) (fun i y hi hy => by
    obtain ⟨h1, h2, h3⟩ := hy
    obtain ⟨v, ev, hv⟩ := c_nl H hs (y := y) hx hM zM
    unfold FX3_fewestStones_s12
    simp (disch := omega) only [zlet, obind, zI_lit, zI_neg, zI_add, zI_sub, zI_mul, zI_div, zI_le, zI_lt, zI_eq, zI_cl, irem, ile_t, ile_f, ilt_t, ilt_f, ieq_t, ieq_f, and_true, true_and, and_false, false_and, and_self, not_true_eq_false, not_false_eq_true, ↓reduceIte, Int.toNat_natCast, tqb_z, tqb_t, tqb_f, lgz]
    by_cases q : y &&& g = 0
    · rw [if_pos q, ev, obind]
      have q' := bb_meet.1 q
      have hl := lay_s k le zM h1
      rw [← hv] at hl
      by_cases q2 : v = y
      · rw [if_pos q2]
        refine Or.inr ⟨_, rfl, -1, rfl, Or.inr ⟨rfl, fun t p n gp wk => ?_⟩⟩
        have := lay_end k le zM h1 (by rw [← hv, q2]) n t p wk
        exact q' p this (by rw [hg]; exact gp)
      · rw [if_neg q2]
        refine Or.inl ⟨v, rfl, hl, fun u hu p n gp wk => ?_, ?_⟩
        · by_cases ui : u = i
          · exact q' p ((h1 p).2 ⟨n, u, by omega, wk⟩) (by rw [hg]; exact gp)
          · exact h2 u (by omega) p n gp wk
        · obtain ⟨p, hp⟩ := set_ne (P := bb y) (Q := bb v) (fun e => q2 (bb_inj e.symm))
          have up := lay_up h1 hl
          have py : bb y p = false := by
            cases e : bb y p
            · rfl
            · rw [e, up p e] at hp; exact absurd rfl hp
          have pv : bb v p = true := by
            cases e : bb v p
            · rw [py, e] at hp; exact absurd rfl hp
            · rfl
          have p64 : p < 64 := Nat.not_le.mp fun r => by rw [bb_big r] at pv; cases pv
          have := ct_lt (n := 64) (fun p _ q => up p q) p64 pv py
          omega
    · rw [if_neg q]
      obtain ⟨p, hp1, hp2⟩ := bb_meet_ne q
      obtain ⟨n, u, hu, wk⟩ := (h1 p).1 hp1
      rw [hg] at hp2
      have ui : u = i := by
        by_cases ui : u < i
        · exact absurd wk (h2 u ui p n hp2)
        · omega
      rw [ui] at wk
      exact Or.inr ⟨_, rfl, i, rfl, Or.inl ⟨i, by omega, rfl, ⟨p, n, hp2, wk⟩, h2⟩⟩) (fun y hy => by
    have h4 : fb_ct (bb y) 64 ≤ 48 := ct_48 fun p q => by
      obtain ⟨n, u, _, wk⟩ := (hy.1 p).1 q
      exact ar_lt k.2.2.2 (Wk_ar wk).1
    have := hy.2.2
    omega) 0 y0 (by omega) (by omega) ⟨by rw [hy0]; exact lay0 k le, fun u hu => absurd hu (Nat.not_lt_zero u), Nat.zero_le _⟩
  refine ⟨r, ?_, hr⟩
  unfold FX3_fewestStones
  rw [e0, obind]
  refine (congrArg (fun o => Option.bind o _) e1).trans ((obind _ _).trans ?_)
  rw [hb]
  rfl
theorem HC.east (H : HC I L a w h K) : bb (L a 4) = edg w h 1 := H.2.2.2.2.2.2.2.1
theorem HC.west (H : HC I L a w h K) : bb (L a 3) = edg w h 0 := H.2.2.2.2.2.2.1
theorem c_thick (H : HC I L a w h K) {x : Int64} {M : Nat → Nat} (hx : bb x = sol M) (hM : sb K M) (zM : ∀ p, ar w h p = false → M p = 0) : ∃ r : Int, FX3_thickness I L a x = some (zI r) ∧ Few w h M 0 (edg w h 1) r := by
  obtain ⟨r, e, hr⟩ := c_few H (s := 0) (by omega) hx hM zM H.east
  refine ⟨r, ?_, hr⟩
  unfold FX3_thickness
  rw [show (0 : Int32) = zI ((0 : Nat) : Int) from rfl, e, obind]
theorem sb_rf (K : Nat → Nat) : sb K K := fun _ => Or.inl rfl
theorem Few_rng {w h s : Nat} {K : Nat → Nat} {G : Nat → Bool} {r : Int} (f : Few w h K s G r) : -1 ≤ r ∧ r ≤ 48 := by
  rcases f with ⟨t, ht, e, _⟩ | ⟨e, _⟩ <;> omega
theorem c_heard (H : HC I L a w h K) {r : Int} (hr : Few w h K 0 (edg w h 1) r) {n : Int} (hn : -2147483648 ≤ n ∧ n < 2147483648) : FX3_isHeardThrough I L a (zI n) = some (decide (r ≠ -1 ∧ r ≤ n)) := by
  obtain ⟨r2, e, hr2⟩ := c_few H (s := 0) (by omega) (c_sol H) (sb_rf K) H.z H.east
  rw [Few_one hr2 hr] at e
  have := Few_rng hr
  unfold FX3_isHeardThrough FX3_isHeardThrough_j28
  rw [zlet, show (0 : Int32) = zI ((0 : Nat) : Int) from rfl, e, obind]
  simp (disch := omega) only [zlet, obind, zI_lit, zI_neg, zI_add, zI_sub, zI_mul, zI_div, zI_le, zI_lt, zI_eq, zI_cl, irem, ile_t, ile_f, ilt_t, ilt_f, ieq_t, ieq_f, and_true, true_and, and_false, false_and, and_self, not_true_eq_false, not_false_eq_true, ↓reduceIte, Int.toNat_natCast, tqb_z, tqb_t, tqb_f]
  by_cases q : r = -1
  · simp [q]
  · rw [if_neg q]
    by_cases q2 : r ≤ n
    · rw [if_neg (by omega)]; simp [q, q2]
    · rw [if_pos (by omega)]; simp [q2]
theorem c_through (H : HC I L a w h K) {r : Int} (hr : Few w h K 0 (edg w h 1) r) : FX3_isThrough I L a = some (decide (r = 0)) := by
  obtain ⟨y, e, hy⟩ := c_reached H (s := 0) (by omega) (c_sol H)
  have hl : IsL w h K 0 0 (bb y) := by rw [hy]; exact lay0 H.k H.le
  unfold FX3_isThrough
  have e' : FX3_reached I L a 0 (FX3_solid I L a) = some y := e
  rw [zlet, e', obind]
  simp only [lgc]
  by_cases q : y &&& L a 4 = 0
  · simp only [if_pos q]
    congr 1
    symm
    rw [decide_eq_false_iff_not]
    intro r0
    rcases hr with ⟨t, _, e2, ⟨p, n, g, wk⟩, _⟩ | ⟨e2, _⟩
    · have : t = 0 := by omega
      rw [this] at wk
      exact bb_meet.1 q p ((hl p).2 ⟨n, 0, Nat.le_refl _, wk⟩) (by rw [H.east]; exact g)
    · omega
  · simp only [if_neg q]
    congr 1
    symm
    rw [decide_eq_true_eq]
    obtain ⟨p, hp1, hp2⟩ := bb_meet_ne q
    obtain ⟨n, u, hu, wk⟩ := (hl p).1 hp1
    rw [H.east] at hp2
    have u0 : u = 0 := by omega
    rw [u0] at wk
    rcases hr with ⟨t, _, e2, _, m⟩ | ⟨e2, m⟩
    · by_cases t0 : t = 0
      · omega
      · exact absurd wk (m 0 (by omega) p n hp2)
    · exact absurd wk (m 0 p n hp2)
end LY
