/-! DUEL, by the reference: the turn before the last. -/
def FN (l : Nat) (I J : tq_PI) : Prop := ∀ a j, a ≠ 141 → (a ≠ 140 ∨ j < 48 * (l + 1)) → J a j = I a j
theorem FN.rf {l : Nat} {I : tq_PI} : FN l I I := fun _ _ _ _ => rfl
theorem FN.tr {l : Nat} {I J M : tq_PI} (h : FN l I J) (k : FN l J M) : FN l I M := fun a j q r => (k a j q r).trans (h a j q r)
theorem FN.lo {l m : Nat} {I J : tq_PI} (h : FN m I J) (q : l ≤ m) : FN l I J := fun a j q1 r => h a j q1 (by omega)
theorem FC.fn {l : Nat} {I J : tq_PI} (h : FC 141 I J) : FN l I J := fun a j r _ => by rw [h a r]
theorem FG.fn {l : Nat} {I J : tq_PI} (h : FG (l + 1) I J) : FN l I J := fun a j _ u => h a j (by omega)
theorem FN.fp {l : Nat} {I J : tq_PI} (F : FN l I J) : FP I J := fun a p => funext fun j => F a j (by unfold psl at p; omega) (by unfold psl at p; omega)
theorem RW.fn {I J : tq_PI} {w h l : Nat} (R : RW I w h) (F : FN l I J) : RW J w h := ⟨by rw [F _ _ (by omega) (by omega)]; exact R.1, by rw [F _ _ (by omega) (by omega)]; exact R.2.1, R.2.2⟩
theorem GR.fn {I J : tq_PI} {w h l m : Nat} {K : Nat → Nat} (G : GR I w h m K) (k : wh w h) (F : FN l I J) (q : m ≤ l) : GR J w h m K := ⟨fun c hc => by have := wh_le k; rw [F _ _ (by omega) (by omega)]; exact G.1 c hc, G.2⟩
section RB
variable {w h : Nat} {M : Nat → Nat}
def al (w h : Nat) (M : Nat → Nat) (s c : Nat) : Prop := c = w * h ∨ cut w h M s (pl w c) = true
def vb (w h : Nat) (M : Nat → Nat) (c : Nat) : Int := -(wb M (plx w h c)) + g1 w h (kb h M (plx w h c)) 0
theorem wb_rg (M : Nat → Nat) (q : Nat) : 0 ≤ wb M q ∧ wb M q ≤ 4 := by
  have := wor_le (M q)
  unfold wb
  split <;> omega
theorem vb_rg (w h : Nat) (M : Nat → Nat) (c : Nat) : -4 ≤ vb w h M c ∧ vb w h M c ≤ 4 := by
  have a := wb_rg M (plx w h c)
  have b := g1_rg w h (kb h M (plx w h c)) 0
  unfold vb
  omega
def BTn (w h : Nat) (M : Nat → Nat) (i : Nat) (x y : Int32) : Prop := (y = zI 0 ∧ ∀ c, c < i → ¬ al w h M 1 c) ∨ (y = zI 1 ∧ ∃ c, c < i ∧ al w h M 1 c ∧ x = zI (vb w h M c) ∧ ∀ d, d < i → al w h M 1 d → vb w h M c ≤ vb w h M d)
theorem BTn_end (k : wh w h) (G : ∀ p, ar w h p = false → M p = 0) {x y : Int32} (B : BTn w h M (w * h + 1) x y) : x = zI (-(g2 w h M 1)) := by
  rcases B with ⟨_, b⟩ | ⟨_, c, hc, ac, rfl, b⟩
  · exact absurd (Or.inl rfl) (b (w * h) (by omega))
  · congr 1
    have h48 := wh_le k
    obtain ⟨m1, m2, m3⟩ := mx_char (g := fun p => (wor (M p) : Int) - g1 w h (kst h (kup M p 0)) (1 - 1)) (P := cut w h M 1) (x := -(g1 w h M (1 - 1))) 48
    have vx : ∀ c, c < w * h → vb w h M c = -((wor (M (pl w c)) : Int) - g1 w h (kst h (kup M (pl w c) 0)) 0) := fun c hc => by
      have := pl_48 k hc
      have hp : plx w h c = pl w c := by unfold plx; rw [if_neg (by omega)]
      unfold vb
      rw [hp]
      unfold kb wb
      rw [if_neg (by omega), if_neg (by omega)]
      omega
    have vi : vb w h M (w * h) = -(-(g1 w h M 0)) := by
      have hp : plx w h (w * h) = 48 := by unfold plx; rw [if_pos rfl]
      unfold vb
      rw [hp]
      unfold kb wb
      rw [if_pos rfl, if_pos rfl]
      omega
    have : -(vb w h M c) = g2 w h M 1 := by
      refine mx_one (g := fun p => (wor (M p) : Int) - g1 w h (kst h (kup M p 0)) (1 - 1)) (P := cut w h M 1) (x := -(g1 w h M (1 - 1))) (n := 48) ?_ (fun p hp pp => ?_) ?_ m1 m2 m3
      · have := b (w * h) (by omega) (Or.inl rfl)
        simp only [Nat.sub_self]
        omega
      · have ap := cut_ar G pp
        obtain ⟨d, hd, rfl⟩ : ∃ d, d < w * h ∧ pl w d = p := ⟨cl w p, cl_lt k ap, pl_cl k ap⟩
        have := b d (by omega) (Or.inr pp)
        have := vx d hd
        simp only [Nat.sub_self]
        omega
      · by_cases q : c = w * h
        · left
          rw [q, vi]
          simp only [Nat.sub_self]
          omega
        · right
          rcases ac with ac | ac
          · exact absurd ac q
          · refine ⟨pl w c, pl_48 k (by omega), ac, ?_⟩
            have := vx c (by omega)
            simp only [Nat.sub_self]
            omega
    omega
theorem r_bstep {J : tq_PI} {i : Nat} {x y : Int32} (m : Int64) (R : RW J w h) (G : GR J w h 1 M) (L : tq_PL) (hi : i ≤ w * h) (a : al w h M 1 i) (B : BTn w h M i x y) : ∃ J2 L2 x2 y2, FX12_turnBefore_j54L22 J L 136 (zI 1) (zI 1) m x y (zI (i : Int)) = some (.inl (x2, y2, zI (i : Int) + 1, J2, L2)) ∧ FN 1 J J2 ∧ FM 2 L L2 ∧ BTn w h M (i + 1) x2 y2 := by
  have k := R.2.2
  have h48 := wh_le k
  obtain ⟨J1, e1, F1, G1⟩ := r_brings (s := 1) R G (by omega) L (by omega) hi
  obtain ⟨J2, L2, e2, F2, N2⟩ := r_last (s := 0) (R.fn F1.fn) G1 (by omega) L (by omega)
  rw [if_neg (by omega)] at e1
  rw [if_pos rfl] at e2
  have e1' : FX12_brings J L 136 (zI 1) (zI 1) (zI (i : Int)) = some (zI (-(wb M (plx w h i))), J1) := e1
  have e2' : FX12_lastTurn J1 L 136 (zI 1 + (1 : Int32)) ((1 : Int32) - zI 1) = some (zI (g1 w h (kb h M (plx w h i)) 0), J2, L2) := e2
  unfold FX12_turnBefore_j54L22
  rw [e1', obind]
  dsimp only
  rw [e2', obind]
  dsimp only
  rw [zI_add]
  have ev : -(wb M (plx w h i)) + g1 w h (kb h M (plx w h i)) 0 = vb w h M i := rfl
  rw [ev]
  have F3 : FN 1 J J2 := F1.fn.tr F2.fn
  rcases B with ⟨rfl, b⟩ | ⟨rfl, c, hc, ac, rfl, b⟩
  · rw [if_pos (show zI 0 = 0 from rfl)]
    refine ⟨J2, L2, _, _, rfl, F3, N2, Or.inr ⟨rfl, i, by omega, a, rfl, fun d hd ad => ?_⟩⟩
    by_cases q : d = i
    · rw [q]; exact Int.le_refl _
    · exact absurd ad (b d (by omega))
  · rw [if_neg (by decide), if_neg (by decide)]
    have r1 := vb_rg w h M c
    have r2 := vb_rg w h M i
    by_cases q : vb w h M c ≤ vb w h M i
    · rw [if_pos (by rw [zI_le (by omega) (by omega)]; exact q)]
      refine ⟨J2, L2, _, _, rfl, F3, N2, Or.inr ⟨rfl, c, by omega, ac, rfl, fun d hd ad => ?_⟩⟩
      by_cases q2 : d = i
      · rw [q2]; exact q
      · exact b d (by omega) ad
    · rw [if_neg (by rw [zI_le (by omega) (by omega)]; exact q)]
      refine ⟨J2, L2, _, _, rfl, F3, N2, Or.inr ⟨rfl, i, by omega, a, rfl, fun d hd ad => ?_⟩⟩
      by_cases q2 : d = i
      · rw [q2]; exact Int.le_refl _
      · have := b d (by omega) ad; omega
theorem r_before {J : tq_PI} (R : RW J w h) (G : GR J w h 1 M) (L : tq_PL) : ∃ J2 L2, FX12_turnBefore J L 136 (zI 1) (zI 1) = some (zI (-(g2 w h M 1)), J2, L2) ∧ FN 1 J J2 ∧ FM 1 L L2 := by
  have k := R.2.2
  have h48 := wh_le k
  obtain ⟨J0, L0, e0, F0, N0, E⟩ := r_sees (s := 1) R G (by omega) L (by omega)
  have e0' : FX12_sees J L 136 (zI 1) (zI 1) = some (J0, L0) := e0
  obtain ⟨m, hm⟩ : ∃ m, m = L0 149 1 := ⟨_, rfl⟩
  rw [← hm] at E
  obtain ⟨⟨x, J2, L2⟩, e, F2, N2, hx⟩ := it_for (f := fun p : Int32 × Int32 × Int32 × tq_PI × tq_PL => FX12_turnBefore_s22 p.2.2.2.1 p.2.2.2.2 136 (zI 1) (zI 1) m p.1 p.2.1 p.2.2.1) (fun i (s : Int32 × Int32 × tq_PI × tq_PL) => (s.1, s.2.1, zI (i : Int), s.2.2.1, s.2.2.2)) (w * h + 1) (fun i s => FN 1 J s.2.2.1 ∧ FM 2 L0 s.2.2.2 ∧ BTn w h M i s.1 s.2.1) (Post := fun t => FN 1 J t.2.1 ∧ FM 2 L0 t.2.2 ∧ t.1 = zI (-(g2 w h M 1))) (fun i s hi hs => by
    obtain ⟨x, y, J1, L1⟩ := s
    obtain ⟨F1, N1, B1⟩ := hs
    dsimp only at F1 N1 B1 ⊢
    have R1 := R.fn F1
    have G1 := G.fn k F1 (by omega)
    unfold FX12_turnBefore_s22
    rw [zlet, r_many R1, if_neg (by rw [zI_lt (by omega) (by omega)]; omega), zlet]
    by_cases q : i = w * h
    · rw [if_pos (by rw [zI_le (by omega) (by omega)]; omega)]
      obtain ⟨J3, L3, x3, y3, e3, F3, N3, B3⟩ := r_bstep m R1 G1 L1 (by omega) (Or.inl q) B1
      rw [e3]
      exact Or.inl ⟨(x3, y3, J3, L3), by rw [zI_lit, zI_add]; rfl, F1.tr F3, N1.tr N3, B3⟩
    · rw [if_neg (by rw [zI_le (by omega) (by omega)]; omega), bb_sar (by omega), E i (by omega)]
      cases ec : cut w h M 1 (pl w i)
      · rw [if_pos (by rw [lgc]; simp)]
        refine Or.inl ⟨(x, y, J1, L1), by unfold FX12_turnBefore_j113L22; rw [zI_lit, zI_add]; rfl, F1, N1, ?_⟩
        have na : ¬ al w h M 1 i := by
          unfold al
          rw [ec]
          simp [q]
        rcases B1 with ⟨b0, b⟩ | ⟨b0, c, hc, ac, b1, b⟩
        · refine Or.inl ⟨b0, fun c hc => ?_⟩
          by_cases q2 : c = i
          · rw [q2]; exact na
          · exact b c (by omega)
        · refine Or.inr ⟨b0, c, by omega, ac, b1, fun d hd ad => ?_⟩
          by_cases q2 : d = i
          · rw [q2] at ad; exact absurd ad na
          · exact b d (by omega) ad
      · rw [if_neg (by rw [lgc]; simp)]
        obtain ⟨J3, L3, x3, y3, e3, F3, N3, B3⟩ := r_bstep m R1 G1 L1 (by omega) (Or.inr ec) B1
        rw [e3]
        exact Or.inl ⟨(x3, y3, J3, L3), by rw [zI_lit, zI_add]; rfl, F1.tr F3, N1.tr N3, B3⟩) (fun s hs => by
    obtain ⟨x, y, J1, L1⟩ := s
    obtain ⟨F1, N1, B1⟩ := hs
    dsimp only at F1 N1 B1 ⊢
    unfold FX12_turnBefore_s22
    rw [zlet, r_many (R.fn F1), if_pos (by rw [zI_lt (by omega) (by omega)]; omega)]
    exact ⟨(x, J1, L1), rfl, F1, N1, BTn_end k G.2.2 B1⟩) 0 ((0 : Int32), (0 : Int32), J0, L0) (by omega) (by omega) ⟨F0.fn, FM.rf, Or.inl ⟨rfl, fun c hc => absurd hc (Nat.not_lt_zero c)⟩⟩
  dsimp only at F2 N2 hx
  refine ⟨J2, L2, ?_, F2, N0.tr (N2.lo (by omega))⟩
  unfold FX12_turnBefore
  rw [e0', obind, if_pos (by decide), g30]
  dsimp only
  rw [show (zI 1).toNatClampNeg = 1 from rfl, ← hm]
  refine (congrArg (fun o => Option.bind o _) e).trans ((obind _ _).trans ?_)
  rw [hx]
end RB
