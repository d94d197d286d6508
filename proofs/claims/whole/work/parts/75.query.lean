/-! The best of a set; the reference's safest; the class's dearest. -/
def BS (g : Nat → Nat) (P : Nat → Bool) (p : Nat) : Prop := P p = true ∧ (∀ q, P q = true → g q ≤ g p) ∧ ∀ q, q < p → P q = true → g q < g p
theorem BS_one {g : Nat → Nat} {P : Nat → Bool} {p q : Nat} (a : BS g P p) (b : BS g P q) : p = q := by
  rcases Nat.lt_trichotomy p q with r | r | r
  · have h1 := b.2.2 p r a.1
    have h2 := a.2.1 q b.1
    omega
  · exact r
  · have h1 := a.2.2 q r b.1
    have h2 := b.2.1 p a.1
    omega
noncomputable def sel (g : Nat → Nat) (P : Nat → Bool) : Option Nat := @dite (Option Nat) (∃ p, BS g P p) (Classical.propDecidable _) (fun h => some (Classical.choose h)) (fun _ => none)
theorem sel_some {g : Nat → Nat} {P : Nat → Bool} {p : Nat} (h : BS g P p) : sel g P = some p := by
  unfold sel
  rw [dif_pos ⟨p, h⟩]
  congr 1
  exact BS_one (Classical.choose_spec ⟨p, h⟩) h
theorem sel_none {g : Nat → Nat} {P : Nat → Bool} (h : ∀ p, P p = false) : sel g P = none := by
  unfold sel
  rw [dif_neg]
  rintro ⟨p, hp⟩
  have := hp.1
  rw [h p] at this
  cases this
/-- so far, in cells below i -/
def BI (g : Nat → Nat) (P : Nat → Bool) (i p : Nat) : Prop := p < i ∧ P p = true ∧ (∀ q, q < i → P q = true → g q ≤ g p) ∧ ∀ q, q < p → P q = true → g q < g p
def FR2 (I J : tq_PI) : Prop := ∀ a j, (a ≠ 141 ∧ (a ≠ 140 ∨ j < 48)) → J a j = I a j
theorem FR2.tr {I J M : tq_PI} (h : FR2 I J) (k : FR2 J M) : FR2 I M := fun a j q => (k a j q).trans (h a j q)
theorem FG.r2 {I J : tq_PI} {l : Nat} (F : FG l I J) (hl : 1 ≤ l) : FR2 I J := fun a j q => F a j (by omega)
theorem FC.r2 {I J : tq_PI} (F : FC 141 I J) : FR2 I J := fun a j q => by rw [F a q.1]
theorem FR2.fp {I J : tq_PI} (F : FR2 I J) : FP I J := fun a p => funext fun j => F a j (by unfold psl at p; omega)
theorem RW.r2 {I J : tq_PI} {w h : Nat} (R : RW I w h) (F : FR2 I J) : RW J w h := ⟨by rw [F _ _ (by omega)]; exact R.1, by rw [F _ _ (by omega)]; exact R.2.1, R.2.2⟩
theorem GR.r2 {I J : tq_PI} {w h : Nat} {K : Nat → Nat} (G : GR I w h 0 K) (k : wh w h) (F : FR2 I J) : GR J w h 0 K := ⟨fun c hc => by have := wh_le k; rw [F _ _ (by omega)]; exact G.1 c hc, G.2⟩
section SF
variable {w h : Nat} {K : Nat → Nat}
theorem r_safest {J : tq_PI} {s : Nat} (hsd : s < 2) (R : RW J w h) (G : GR J w h 0 K) (M : tq_PL) (f : Bool) : ∃ (b : Int32) (J2 : tq_PI), FX12_safest J M 136 (zI (s : Int)) (zB f) = some (b, J2) ∧ FR2 J J2 ∧ ((b = zI (-1) ∧ ∀ p, saf w h K s p = false) ∨ ∃ p, b = zI (cl w p : Nat) ∧ BS (fun q => if f then wor (K q) else 0) (saf w h K s) p ∧ ar w h p = true) := by
  have k := R.2.2
  have h48 := wh_le k
  obtain ⟨J0, e0, F0, T0⟩ := r_reaches R G (by omega) M hsd
  have R0 := R.fc F0 (by omega)
  have G0 := G.fc F0 (by omega)
  obtain ⟨g, hg⟩ : ∃ g : Nat → Nat, g = fun q => if f then wor (K q) else 0 := ⟨_, rfl⟩
  obtain ⟨⟨b, J2⟩, e, F, hx⟩ := it_for (f := fun p : Int32 × Int32 × tq_PI => FX12_safest_s11 p.2.2 M 136 (zI (s : Int)) (zB f) p.1 p.2.1) (fun i (x : Int32 × tq_PI) => (x.1, zI (i : Int), x.2)) (w * h) (fun i x => FG 1 J0 x.2 ∧ ((x.1 = zI (-1) ∧ ∀ q, q < pl w i → saf w h K s q = false) ∨ ∃ p, x.1 = zI (cl w p : Nat) ∧ ar w h p = true ∧ BI g (saf w h K s) (pl w i) p)) (Post := fun x => FG 1 J0 x.2 ∧ ((x.1 = zI (-1) ∧ ∀ q, q < pl w (w * h) → saf w h K s q = false) ∨ ∃ p, x.1 = zI (cl w p : Nat) ∧ ar w h p = true ∧ BI g (saf w h K s) (pl w (w * h)) p)) (fun i x hi hx => by
    obtain ⟨b, J1⟩ := x
    obtain ⟨F, hs⟩ := hx
    dsimp only at hs F ⊢
    have R1 := R0.fg F
    have G1 := G0.fg k F (by omega)
    have T1 := T0.fg F
    have ic := r_isCut R1 G1 (by omega) M hsd T1 hi
    have ic' : FX12_isCut J1 M 136 (zI 0) (zI (s : Int)) (zI (i : Int)) = some (cut w h K s (pl w i)) := ic
    obtain ⟨J3, e3, _, F3⟩ := r_los R1 G1 (by omega) M hi
    have e3' : FX12_taken J1 M 136 (zI 0) (zI (i : Int)) = some (zI (los h K (pl w i) : Nat), J3) := e3
    have l1 := los_le h K (pl w i)
    have nx : ∀ r, saf w h K s r = true → r < pl w (i + 1) → r < pl w i ∨ r = pl w i := fun r sr hr => (pl_next k (saf_ar G.2.2 sr)).1 hr
    have li : pl w i < pl w (i + 1) := pl_lt k (by omega)
    have hsf : saf w h K s (pl w i) = (cut w h K s (pl w i) && decide (los h K (pl w i) = 0)) := rfl
    -- it stays
    have stay : ∀ J4, FG 1 J0 J4 → (saf w h K s (pl w i) = true → ∃ p, b = zI (cl w p : Nat) ∧ ar w h p = true ∧ BI g (saf w h K s) (pl w i) p ∧ g (pl w i) ≤ g p) → (∃ s2 : Int32 × tq_PI, (some (.inl (b, zI ((i : Int) + 1), J4)) : Option ((Int32 × Int32 × tq_PI) ⊕ (Int32 × tq_PI))) = some (.inl (s2.1, zI ((i + 1 : Nat) : Int), s2.2)) ∧ FG 1 J0 s2.2 ∧ ((s2.1 = zI (-1) ∧ ∀ q, q < pl w (i + 1) → saf w h K s q = false) ∨ ∃ p, s2.1 = zI (cl w p : Nat) ∧ ar w h p = true ∧ BI g (saf w h K s) (pl w (i + 1)) p)) := fun J4 F4 hq => by
      refine ⟨(b, J4), rfl, F4, ?_⟩
      cases sp : saf w h K s (pl w i)
      · rcases hs with ⟨s1, s2⟩ | ⟨p, s1, s2, s3, s4, s5, s6⟩
        · refine Or.inl ⟨s1, fun r hr => ?_⟩
          cases sr : saf w h K s r
          · rfl
          · rcases nx r sr hr with n1 | n1
            · rw [s2 r n1] at sr; cases sr
            · rw [n1, sp] at sr; cases sr
        · refine Or.inr ⟨p, s1, s2, by omega, s4, fun r hr sr => ?_, s6⟩
          rcases nx r sr hr with n1 | n1
          · exact s5 r n1 sr
          · rw [n1, sp] at sr; cases sr
      · obtain ⟨p, s1, s2, ⟨s3, s4, s5, s6⟩, s7⟩ := hq sp
        refine Or.inr ⟨p, s1, s2, by omega, s4, fun r hr sr => ?_, s6⟩
        rcases nx r sr hr with n1 | n1
        · exact s5 r n1 sr
        · rw [n1]; exact s7
    -- it is tried
    have try1 : cut w h K s (pl w i) = true → ((b = zI (-1) ∧ ∀ q, q < pl w i → saf w h K s q = false) ∨ ∃ p, b = zI (cl w p : Nat) ∧ ar w h p = true ∧ BI g (saf w h K s) (pl w i) p ∧ g p < g (pl w i)) → (∃ s2 : Int32 × tq_PI, FX12_safest_j65L11 J1 M 136 (zI (s : Int)) (zB f) b (zI (i : Int)) = some (.inl (s2.1, zI ((i + 1 : Nat) : Int), s2.2)) ∧ FG 1 J0 s2.2 ∧ ((s2.1 = zI (-1) ∧ ∀ q, q < pl w (i + 1) → saf w h K s q = false) ∨ ∃ p, s2.1 = zI (cl w p : Nat) ∧ ar w h p = true ∧ BI g (saf w h K s) (pl w (i + 1)) p)) := fun qc hq => by
      have hj : FX12_safest_j65L11 J1 M 136 (zI (s : Int)) (zB f) b (zI (i : Int)) = if los h K (pl w i) = 0 then some (.inl (zI (i : Int), zI ((i : Int) + 1), J3)) else some (.inl (b, zI ((i : Int) + 1), J3)) := by
        unfold FX12_safest_j65L11 FX12_safest_j78L11
        simp (disch := omega) only [zlet, obind, zI_lit, zI_neg, zI_add, zI_sub, zI_mul, zI_div, zI_le, zI_lt, zI_eq, zI_cl, irem, ile_t, ile_f, ilt_t, ilt_f, ieq_t, ieq_f, and_true, true_and, and_false, false_and, and_self, not_true_eq_false, not_false_eq_true, ↓reduceIte, Int.toNat_natCast, tqb_z, tqb_t, tqb_f, e3']
        by_cases q0 : los h K (pl w i) = 0
        · rw [if_pos (by omega), if_pos q0]
        · rw [if_neg (by omega), if_neg q0]
      rw [hj]
      by_cases q0 : los h K (pl w i) = 0
      · rw [if_pos q0]
        have sp : saf w h K s (pl w i) = true := by rw [hsf, qc, q0]; rfl
        refine ⟨(zI (i : Int), J3), rfl, F.tr F3, Or.inr ⟨pl w i, by rw [cl_pl k], pl_ar k hi, li, sp, fun r hr sr => ?_, fun r hr sr => ?_⟩⟩
        · rcases nx r sr hr with n1 | n1
          · rcases hq with ⟨_, h2⟩ | ⟨p, _, _, ⟨_, _, s5, _⟩, s7⟩
            · rw [h2 r n1] at sr; cases sr
            · have := s5 r n1 sr; omega
          · rw [n1]; exact Nat.le_refl _
        · rcases hq with ⟨_, h2⟩ | ⟨p, _, _, ⟨_, _, s5, _⟩, s7⟩
          · rw [h2 r hr] at sr; cases sr
          · have := s5 r hr sr; omega
      · rw [if_neg q0]
        exact stay J3 (F.tr F3) (fun sp => by rw [hsf, qc] at sp; simp [q0] at sp)
    have n1c : ∀ p : Nat, ar w h p = true → ¬ zI (cl w p : Nat) = zI (-1) := fun p ap => by
      have := cl_lt k ap
      rw [zI_eq (by omega) (by omega)]
      omega
    unfold FX12_safest_s11 FX12_safest_j78L11
    simp (disch := omega) only [zlet, obind, zI_lit, zI_neg, r_many R1, zI_le, ic', tqb_z, zB_0, zI_add, r_kind0 k G1, r_worth _ _ (G.2.1 _), Int.toNat_natCast]
    rw [if_neg (by omega)]
    cases qc : cut w h K s (pl w i)
    · rw [if_pos rfl]
      exact Or.inl (stay J1 F (fun sp => by rw [hsf, qc] at sp; cases sp))
    · rw [if_neg (by simp)]
      rcases hs with ⟨s1, s2⟩ | ⟨p, s1, s2, s3⟩
      · rw [if_pos s1]
        exact Or.inl (try1 qc (Or.inl ⟨s1, s2⟩))
      · rw [if_neg (by rw [s1]; exact n1c p s2)]
        have kd := r_kind0 k G1 M (z := (cl w p : Nat)) (by have := cl_lt k s2; omega)
        rw [Int.toNat_natCast, pl_cl k s2] at kd
        cases f
        · rw [if_pos rfl]
          exact Or.inl (stay J1 F (fun _ => ⟨p, s1, s2, s3, by rw [hg]; simp⟩))
        · rw [if_neg (by simp), s1, kd, obind, r_worth _ _ (G.2.1 _)]
          have w1 := wor_le (K p)
          have w2 := wor_le (K (pl w i))
          rw [← s1]
          simp (disch := omega) only [zI_lt]
          have gp : ∀ q, g q = wor (K q) := fun q => by rw [hg]; simp
          by_cases q2 : wor (K p) < wor (K (pl w i))
          · rw [if_pos (by omega)]
            exact Or.inl (try1 qc (Or.inr ⟨p, s1, s2, s3, by rw [gp, gp]; exact q2⟩))
          · rw [if_neg (by omega)]
            exact Or.inl (stay J1 F (fun _ => ⟨p, s1, s2, s3, by rw [gp, gp]; omega⟩))) (fun x hx => by
    have R1 := R0.fg hx.1
    unfold FX12_safest_s11
    simp (disch := omega) only [zlet, obind, zI_lit, zI_neg, zI_add, zI_sub, zI_mul, zI_div, zI_le, zI_lt, zI_eq, zI_cl, irem, ile_t, ile_f, ilt_t, ilt_f, ieq_t, ieq_f, and_true, true_and, and_false, false_and, and_self, not_true_eq_false, not_false_eq_true, ↓reduceIte, Int.toNat_natCast, tqb_z, tqb_t, tqb_f, r_many R1]
    exact ⟨_, rfl, hx⟩) 0 (zI (-1), J0) (by omega) (by omega) ⟨FG.rf, Or.inl ⟨rfl, fun q hq => absurd hq (by simp [pl])⟩⟩
  dsimp only at F
  refine ⟨b, J2, ?_, F0.r2.tr (F.r2 (by omega)), ?_⟩
  · unfold FX12_safest
    rw [show ((0 : Int32)) = zI ((0 : Nat) : Int) from rfl, e0, obind]
    exact (congrArg (fun o => Option.bind o _) e).trans (obind _ _)
  · rw [← hg]
    rcases hx with ⟨h1, h2⟩ | ⟨p, h1, h2, h3, h4, h5, h6⟩
    · refine Or.inl ⟨h1, fun q => ?_⟩
      cases sq : saf w h K s q
      · rfl
      · rw [h2 q (pl_end k (saf_ar G.2.2 sq))] at sq; cases sq
    · exact Or.inr ⟨p, h1, ⟨h4, fun q sq => h5 q (pl_end k (saf_ar G.2.2 sq)) sq, h6⟩, h2⟩
end SF
section DE
variable {I : tq_PI} {L : tq_PL} {a w h : Nat} {K : Nat → Nat}
/-- of stones the dearest -/
theorem c_dear (H : HC I L a w h K) {x : Int64} {P : Nat → Bool} (hx : bb x = P) (hP : ∀ p, P p = true → sto K p = true) : (FX3_dearest I L a x = 0 ∧ ∀ p, P p = false) ∨ ∃ p, p < 48 ∧ bb (FX3_dearest I L a x) = (fun q => decide (q = p)) ∧ BS (fun q => wor (K q)) P p := by
  have key : ∀ (m c v : Nat), c < 3 → (m = 6 ∧ v = 1 ∨ m = 7 ∧ v = 2 ∨ m = 8 ∧ v = 3) → bb (L a m) = (fun p => decide (K p = v)) → ¬ (x &&& L a m) = 0 → (∀ q, P q = true → wor (K q) ≤ wor v) → (∀ q, P q = true → K q ≠ v → wor (K q) < wor v) → ∃ p, p < 48 ∧ bb (FX11_lowest I L (x &&& L a m)) = (fun q => decide (q = p)) ∧ BS (fun q => wor (K q)) P p := fun m c v _ _ hm nz h1 h2 => by
    obtain ⟨p, hp, p1, p2⟩ := bb_least nz
    rw [bb_and, hx, hm, Bool.and_eq_true, decide_eq_true_eq] at p1
    refine ⟨p, ar_lt H.k.2.2.2 (sto_ar H.z (hP p p1.1)), c_low (by rw [bb_and, hx, hm]; simp [p1]) p2, p1.1, fun q hq => by dsimp only; rw [p1.2]; exact h1 q hq, fun q hq sq => ?_⟩
    dsimp only
    rw [p1.2]
    refine h2 q sq (fun e => ?_)
    have := p2 q hq
    rw [bb_and, hx, hm, sq] at this
    simp [e] at this
  have k13 : ∀ q, P q = true → K q = 1 ∨ K q = 2 ∨ K q = 3 := fun q hq => by
    have := hP q hq
    simp only [sto, decide_eq_true_eq] at this
    omega
  have no : ∀ m v, bb (L a m) = (fun p => decide (K p = v)) → (x &&& L a m) = 0 → ∀ q, P q = true → K q ≠ v := fun m v hm z q hq e => by
    refine bb_meet.1 z q (by rw [hx]; exact hq) ?_
    rw [hm]; simp [e]
  unfold FX3_dearest FX3_dearest_j47
  simp only [lgc, zlet]
  by_cases z2 : x &&& L a 7 = 0
  · rw [if_pos z2]
    have n2 := no 7 2 H.m2 z2
    by_cases z3 : x &&& L a 8 = 0
    · rw [if_pos z3]
      have n3 := no 8 3 H.m3 z3
      by_cases z1 : x &&& L a 6 = 0
      · have n1 := no 6 1 H.m1 z1
        refine Or.inl ⟨by rw [z1, c_low0], fun q => ?_⟩
        cases pq : P q
        · rfl
        · rcases k13 q pq with e | e | e
          · exact absurd e (n1 q pq)
          · exact absurd e (n2 q pq)
          · exact absurd e (n3 q pq)
      · refine Or.inr (key 6 0 1 (by omega) (by omega) H.m1 z1 (fun q hq => ?_) (fun q hq ne => ?_))
        · rcases k13 q hq with e | e | e
          · rw [e]; exact Nat.le_refl _
          · exact absurd e (n2 q hq)
          · exact absurd e (n3 q hq)
        · rcases k13 q hq with e | e | e
          · exact absurd e ne
          · exact absurd e (n2 q hq)
          · exact absurd e (n3 q hq)
    · rw [if_neg z3]
      refine Or.inr (key 8 0 3 (by omega) (by omega) H.m3 z3 (fun q hq => ?_) (fun q hq ne => ?_))
      · rcases k13 q hq with e | e | e
        · rw [e]; decide
        · exact absurd e (n2 q hq)
        · rw [e]; exact Nat.le_refl _
      · rcases k13 q hq with e | e | e
        · rw [e]; decide
        · exact absurd e (n2 q hq)
        · exact absurd e ne
  · rw [if_neg z2]
    refine Or.inr (key 7 0 2 (by omega) (by omega) H.m2 z2 (fun q hq => ?_) (fun q hq ne => ?_))
    · rcases k13 q hq with e | e | e <;> rw [e] <;> decide
    · rcases k13 q hq with e | e | e
      · rw [e]; decide
      · exact absurd e ne
      · rw [e]; decide
end DE
