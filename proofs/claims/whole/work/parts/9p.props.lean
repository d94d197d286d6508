/-! PROPPED: two props by the reference; the query. -/
theorem rg_0_6 : tq_rg 0 6 = 48 := by decide +kernel
section RQ
variable {i w h : Nat} {K : Nat → Nat}
theorem r_two_in {J : tq_PI} (R : RH J i w h K) (M : tq_PL) {c a : Nat} (hc : c < w * h) (ha : a < w * h) (hs : sto K (pl w c) = true) : ∃ o, tq_it (fun p : Int32 × tq_PI => FX12_propsOf_s77 p.2 M 136 (zI (c : Int)) (zI (a : Int)) p.1) tq_N (zI ((a + 1 : Nat) : Int), J) = some o ∧ ((∃ J2, o = .inl J2 ∧ FQ J J2 ∧ ∀ b, a < b → b < w * h → hd2 w h K (kup K (pl w c) 0) (pl w a) (pl w b) = false) ∨ ∃ J2 b, o = .inr (zI 2, J2) ∧ FQ J J2 ∧ a < b ∧ b < w * h ∧ J2 150 0 = zI (a : Int) ∧ J2 150 1 = zI (b : Int) ∧ hd2 w h K (kup K (pl w c) 0) (pl w a) (pl w b) = true ∧ ∀ e, a < e → e < b → hd2 w h K (kup K (pl w c) 0) (pl w a) (pl w e) = false) := by
  have k := R.1.2.2
  have h48 := wh_le k
  have hi2 := R.2.2.2.1
  have nc : ∀ d, air w h K (pl w d) = true → pl w d ≠ pl w c := fun d ea q => by
    rw [q] at ea
    simp [air] at ea
    simp [sto, ea.2] at hs
  obtain ⟨o, e, ho⟩ := it_for (f := fun p : Int32 × tq_PI => FX12_propsOf_s77 p.2 M 136 (zI (c : Int)) (zI (a : Int)) p.1) (fun d (J1 : tq_PI) => (zI (d : Int), J1)) (w * h) (fun d J1 => FQ J J1 ∧ a < d ∧ ∀ e, a < e → e < d → hd2 w h K (kup K (pl w c) 0) (pl w a) (pl w e) = false) (Post := fun o => (∃ J2, o = .inl J2 ∧ FQ J J2 ∧ ∀ e, a < e → e < w * h → hd2 w h K (kup K (pl w c) 0) (pl w a) (pl w e) = false) ∨ ∃ J2 b, o = .inr (zI 2, J2) ∧ FQ J J2 ∧ a < b ∧ b < w * h ∧ J2 150 0 = zI (a : Int) ∧ J2 150 1 = zI (b : Int) ∧ hd2 w h K (kup K (pl w c) 0) (pl w a) (pl w b) = true ∧ ∀ e, a < e → e < b → hd2 w h K (kup K (pl w c) 0) (pl w a) (pl w e) = false) (fun d J1 hd hJ => by
    obtain ⟨F1, had, hJ⟩ := hJ
    have F2 : FQ J (tq_up2 (tq_up2 J1 150 0 (zI (a : Int))) 150 1 (zI (d : Int))) := (F1.tr FQ.up).tr FQ.up
    have R2 := R.fq F2
    have hn : ∀ v, hd2 w h K (kup K (pl w c) 0) (pl w a) (pl w d) = v → v = false → a < d + 1 ∧ ∀ q, a < q → q < d + 1 → hd2 w h K (kup K (pl w c) 0) (pl w a) (pl w q) = false := fun v e1 e2 => ⟨by omega, fun q hq1 hq => by
      by_cases e : q = d
      · rw [e, e1, e2]
      · exact hJ q hq1 (by omega)⟩
    obtain ⟨J3, e3, F3⟩ := r_holds R2 M hc ha hd
    have ez := air_zI R2 hd
    have ez2 := air_zI R2 ha
    have hm := r_many (R.fq F1).1 M
    have h12 := R2.2.1
    unfold FX12_propsOf_s77 FX12_propsOf_j143L77
    simp (disch := omega) only [zlet, obind, zI_lit, zI_neg, zI_add, zI_sub, zI_mul, zI_div, zI_le, zI_lt, zI_eq, zI_cl, irem, ile_t, ile_f, ilt_t, ilt_f, ieq_t, ieq_f, and_true, true_and, and_false, false_and, and_self, not_true_eq_false, not_false_eq_true, ↓reduceIte, Int.toNat_natCast, tqb_z, tqb_t, tqb_f, hm, g32, g0, show (0 : Int).toNat = 0 from rfl, show (1 : Int).toNat = 1 from rfl, h12, e3]
    rw [show (((610 + 50 * i : Nat) : Int) + 2 + (d : Int)).toNat = 612 + 50 * i + d by omega, show (((610 + 50 * i : Nat) : Int) + 2 + (a : Int)).toNat = 612 + 50 * i + a by omega]
    cases ea : air w h K (pl w a)
    · rw [if_neg (by rw [ez2, ea]; simp)]
      exact Or.inl ⟨_, rfl, F2, hn _ rfl (by simp [hd2, ea])⟩
    · rw [if_pos (by rw [ez2, ea])]
      cases ed : air w h K (pl w d)
      · rw [if_neg (by rw [ez, ed]; simp)]
        exact Or.inl ⟨_, rfl, F2, hn _ rfl (by simp [hd2, ed])⟩
      · rw [if_pos (by rw [ez, ed]), pk_2 (nc a ea) (nc d ed)]
        cases es : sta h (sol (kup (kup (kup K (pl w c) 0) (pl w a) 4) (pl w d) 4))
        · rw [if_pos rfl]
          exact Or.inl ⟨_, rfl, F2.tr F3.fq, hn _ rfl (by simp [hd2, es])⟩
        · rw [if_neg (by simp)]
          refine Or.inr ⟨_, rfl, Or.inr ⟨J3, d, rfl, F2.tr F3.fq, had, hd, ?_, ?_, by simp [hd2, ea, ed, es], hJ⟩⟩
          · rw [F3 150 (by omega), up_n _ _ (by omega), up_s]
          · rw [F3 150 (by omega), up_s]) (fun J1 hJ => by
    unfold FX12_propsOf_s77
    simp (disch := omega) only [zlet, obind, zI_lit, zI_neg, zI_add, zI_sub, zI_mul, zI_div, zI_le, zI_lt, zI_eq, zI_cl, irem, ile_t, ile_f, ilt_t, ilt_f, ieq_t, ieq_f, and_true, true_and, and_false, false_and, and_self, not_true_eq_false, not_false_eq_true, ↓reduceIte, Int.toNat_natCast, tqb_z, tqb_t, tqb_f, r_many (R.fq hJ.1).1 M]
    exact ⟨_, rfl, Or.inl ⟨J1, rfl, hJ.1, hJ.2.2⟩⟩) (a + 1) J (by omega) (by omega) ⟨FQ.rf, by omega, fun q h1 h2 => by omega⟩
  exact ⟨o, e, ho⟩
theorem r_twos {J : tq_PI} (R : RH J i w h K) (M : tq_PL) {c : Nat} (hc : c < w * h) (hs : sto K (pl w c) = true) : ∃ o, tq_it (fun p : Int32 × tq_PI => FX12_propsOf_s65 p.2 M 136 (zI (c : Int)) p.1) tq_N (zI ((0 : Nat) : Int), J) = some o ∧ ((∃ J2, o = .inl J2 ∧ FQ J J2 ∧ ∀ q r, q < r → hd2 w h K (kup K (pl w c) 0) q r = false) ∨ ∃ J2 a b, o = .inr (zI 2, J2) ∧ FQ J J2 ∧ a < b ∧ b < w * h ∧ J2 150 0 = zI (a : Int) ∧ J2 150 1 = zI (b : Int) ∧ hd2 w h K (kup K (pl w c) 0) (pl w a) (pl w b) = true ∧ ∀ q r, q < r → (q < pl w a ∨ (q = pl w a ∧ r < pl w b)) → hd2 w h K (kup K (pl w c) 0) q r = false) := by
  have k := R.1.2.2
  have h48 := wh_le k
  have cut2 : ∀ q r, (air w h K q = true → air w h K r = true → hd2 w h K (kup K (pl w c) 0) q r = false) → hd2 w h K (kup K (pl w c) 0) q r = false := fun q r f => by
    cases ea : air w h K q
    · simp [hd2, ea]
    · cases eb : air w h K r
      · simp [hd2, eb]
      · exact f ea eb
  obtain ⟨o, e, ho⟩ := it_for (f := fun p : Int32 × tq_PI => FX12_propsOf_s65 p.2 M 136 (zI (c : Int)) p.1) (fun d (J1 : tq_PI) => (zI (d : Int), J1)) (w * h) (fun d J1 => FQ J J1 ∧ ∀ a b, a < d → a < b → b < w * h → hd2 w h K (kup K (pl w c) 0) (pl w a) (pl w b) = false) (Post := fun o => (∃ J2, o = .inl J2 ∧ FQ J J2 ∧ ∀ a b, a < w * h → a < b → b < w * h → hd2 w h K (kup K (pl w c) 0) (pl w a) (pl w b) = false) ∨ ∃ J2 a b, o = .inr (zI 2, J2) ∧ FQ J J2 ∧ a < b ∧ b < w * h ∧ J2 150 0 = zI (a : Int) ∧ J2 150 1 = zI (b : Int) ∧ hd2 w h K (kup K (pl w c) 0) (pl w a) (pl w b) = true ∧ (∀ d e, d < a → d < e → e < w * h → hd2 w h K (kup K (pl w c) 0) (pl w d) (pl w e) = false) ∧ ∀ e, a < e → e < b → hd2 w h K (kup K (pl w c) 0) (pl w a) (pl w e) = false) (fun d J1 hd hJ => by
    obtain ⟨F1, hJ⟩ := hJ
    have R1 := R.fq F1
    obtain ⟨o, e, ho⟩ := r_two_in R1 M hc hd hs
    unfold FX12_propsOf_s65
    simp (disch := omega) only [zlet, obind, zI_lit, zI_neg, zI_add, zI_sub, zI_mul, zI_div, zI_le, zI_lt, zI_eq, zI_cl, irem, ile_t, ile_f, ilt_t, ilt_f, ieq_t, ieq_f, and_true, true_and, and_false, false_and, and_self, not_true_eq_false, not_false_eq_true, ↓reduceIte, Int.toNat_natCast, tqb_z, tqb_t, tqb_f, r_many R1.1 M]
    rw [show zI ((d : Int) + 1) = zI ((d + 1 : Nat) : Int) from rfl, e, obind]
    rcases ho with ⟨J2, rfl, F2, ho⟩ | ⟨J2, b, rfl, F2, h1, h2, h3, h4, h5, h6⟩
    · refine Or.inl ⟨_, rfl, F1.tr F2, fun a b h1 h2 h3 => ?_⟩
      by_cases g : a = d
      · rw [g]; exact ho b (by omega) h3
      · exact hJ a b (by omega) h2 h3
    · exact Or.inr ⟨_, rfl, Or.inr ⟨J2, d, b, rfl, F1.tr F2, h1, h2, h3, h4, h5, hJ, h6⟩⟩) (fun J1 hJ => by
    unfold FX12_propsOf_s65
    simp (disch := omega) only [zlet, obind, zI_lit, zI_neg, zI_add, zI_sub, zI_mul, zI_div, zI_le, zI_lt, zI_eq, zI_cl, irem, ile_t, ile_f, ilt_t, ilt_f, ieq_t, ieq_f, and_true, true_and, and_false, false_and, and_self, not_true_eq_false, not_false_eq_true, ↓reduceIte, Int.toNat_natCast, tqb_z, tqb_t, tqb_f, r_many (R.fq hJ.1).1 M]
    exact ⟨_, rfl, Or.inl ⟨J1, rfl, hJ⟩⟩) 0 J (by omega) (by omega) ⟨FQ.rf, fun a b h1 => absurd h1 (Nat.not_lt_zero a)⟩
  refine ⟨o, e, ?_⟩
  have cls : ∀ q r, q < r → air w h K q = true → air w h K r = true → ∃ a b, a < b ∧ b < w * h ∧ q = pl w a ∧ r = pl w b := fun q r h1 h2 h3 => by
    have a2 := air_ar h2
    have a3 := air_ar h3
    refine ⟨cl w q, cl w r, ?_, cl_lt k a3, (pl_cl k a2).symm, (pl_cl k a3).symm⟩
    rw [← pl_lt_iff k, pl_cl k a2, pl_cl k a3]
    exact h1
  rcases ho with ⟨J2, rfl, F, ho⟩ | ⟨J2, a, b, rfl, F, h1, h2, h3, h4, h5, h6, h7⟩
  · refine Or.inl ⟨J2, rfl, F, fun q r h1 => cut2 q r fun h2 h3 => ?_⟩
    obtain ⟨a, b, g1, g2, rfl, rfl⟩ := cls q r h1 h2 h3
    exact ho a b (by omega) g1 g2
  · refine Or.inr ⟨J2, a, b, rfl, F, h1, h2, h3, h4, h5, fun q r g1 g2 => cut2 q r fun h8 h9 => ?_⟩
    obtain ⟨d, e, g3, g4, rfl, rfl⟩ := cls q r g1 h8 h9
    rw [pl_lt_iff k, pl_lt_iff k] at g2
    rcases g2 with g2 | ⟨g2, g5⟩
    · exact h6 d e g2 g3 g4
    · have := pl_inj k g2
      subst this
      exact h7 e g3 g5
theorem r_propsOf {J : tq_PI} (R : RH J i w h K) (M : tq_PL) {c : Nat} (hc : c < w * h) (hs : sto K (pl w c) = true) : ∃ (n q r : Nat) (J2 : tq_PI), FX12_propsOf J M 136 (zI (c : Int)) = some (zI (if n < 3 then (n : Int) else -1), J2) ∧ FP J J2 ∧ PR w h K (kup K (pl w c) 0) n q r ∧ n ≤ 3 ∧ (1 ≤ n → n ≤ 2 → J2 150 0 = zI (cl w q : Nat)) ∧ (n = 2 → J2 150 1 = zI (cl w r : Nat)) := by
  have k := R.1.2.2
  obtain ⟨J1, e1, F1⟩ := r_holds R M hc hc hc
  unfold FX12_propsOf
  rw [e1, obind, pk_0]
  cases es : sta h (sol (kup K (pl w c) 0))
  · rw [if_pos (show tq_b false = 0 from rfl)]
    have R1 := R.fq F1.fq
    obtain ⟨o, e2, ho⟩ := r_one R1 M hc hs
    rw [show (0 : Int32) = zI ((0 : Nat) : Int) from rfl, e2, obind]
    rcases ho with ⟨J2, rfl, F2, ho⟩ | ⟨J2, d, rfl, F2, h1, h2, h3, h4⟩
    · obtain ⟨o, e3, hq⟩ := r_twos (R1.fq F2) M hc hs
      show ∃ n q r J2_1, ((tq_it (fun p : Int32 × tq_PI => FX12_propsOf_s65 p.2 M 136 (zI (c : Int)) p.1) tq_N (zI ((0 : Nat) : Int), J2)).bind _) = _ ∧ _
      rw [e3, obind]
      rcases hq with ⟨J3, rfl, F3, hq⟩ | ⟨J3, a, b, rfl, F3, h1, h2, h3, h4, h5, h6⟩
      · exact ⟨3, 0, 0, J3, rfl, ((F1.fq.tr F2).tr F3).fp, Or.inr (Or.inr (Or.inr ⟨rfl, es, ho, hq⟩)), by omega, by omega, by omega⟩
      · exact ⟨2, pl w a, pl w b, J3, rfl, ((F1.fq.tr F2).tr F3).fp, Or.inr (Or.inr (Or.inl ⟨rfl, es, ho, pl_lt k h1, h5, h6⟩)), by omega, fun _ _ => by rw [cl_pl k]; exact h3, fun _ => by rw [cl_pl k]; exact h4⟩
    · exact ⟨1, pl w d, 0, J2, rfl, (F1.fq.tr F2).fp, Or.inr (Or.inl ⟨rfl, es, h3, h4⟩), by omega, fun _ _ => by rw [cl_pl k]; exact h2, by omega⟩
  · rw [if_neg (show ¬ tq_b true = 0 by decide)]
    exact ⟨0, 0, 0, J1, rfl, F1.fq.fp, Or.inl ⟨rfl, es⟩, by omega, by omega, by omega⟩
end RQ
theorem PR_le {w h : Nat} {K M : Nat → Nat} {n q r : Nat} (a : PR w h K M n q r) : n ≤ 3 := by
  rcases a with ⟨rfl, _⟩ | ⟨rfl, _⟩ | ⟨rfl, _⟩ | ⟨rfl, _⟩ <;> omega
def pr_ans (n w q s : Nat) (t : Int) : Int := if n < 3 then (if t = -1 then (n : Int) else tw_at n w q s t) else -1
theorem r_prq {J : tq_PI} {i w h : Nat} {K : Nat → Nat} (R : RH J i w h K) (M : tq_PL) {c n q s : Nat} (hc : c < w * h) (gs : sto K (pl w c) = true) (P : PR w h K (kup K (pl w c) 0) n q s) {t : Int} (ht : -2147483648 ≤ t ∧ t < 2147483648) : ∃ J2, (if (-1 : Int32) ≤ zI t then ((FX12_propsOf J M 136 (zI (c : Int))).bind fun p9 => (if p9.1 = (-1 : Int32) then (FX12_propped_j60 p9.2 M p9.1) else (if zI t = (-1 : Int32) then (FX12_propped_j60 p9.2 M p9.1) else (if p9.1 ≤ zI t then some ((-1 : Int32), p9.2) else (if 0 ≤ zI t ∧ zI t < 2 then some ((p9.2 (tq_rg 136 32) (zI t).toNatClampNeg), p9.2) else none))))) else (FX12_propped_j40 J M )) = some (zI (pr_ans n w q s t), J2) ∧ FP J J2 := by
  obtain ⟨m, q', s', J3, e3, F3, P5, m3, m1, m2⟩ := r_propsOf R M hc gs
  obtain ⟨u1, u2, u3⟩ := PR_one P P5
  subst u1
  clear P P5 gs hc
  rw [e3, obind, g32]
  clear e3
  unfold FX12_propped_j40 FX12_propped_j60 pr_ans
  by_cases t1 : -1 ≤ t
  · rw [if_pos (by rw [zI_lit, zI_neg, zI_le (by omega) (by omega)]; exact t1)]
    by_cases n2 : n < 3
    · rw [if_pos n2, if_neg (by rw [zI_lit, zI_neg, zI_eq (by omega) (by omega)]; omega)]
      by_cases t2 : t = -1
      · rw [if_pos (by rw [t2]; rfl), if_pos t2]
        rw [if_pos n2]
        exact ⟨J3, rfl, F3⟩
      · rw [if_neg (by rw [zI_lit, zI_neg, zI_eq (by omega) (by omega)]; exact t2)]
        rw [if_pos n2, if_neg t2]
        by_cases t3 : (n : Int) ≤ t
        · rw [if_pos (by rw [zI_le (by omega) (by omega)]; exact t3)]
          refine ⟨J3, ?_, F3⟩
          unfold tw_at
          rw [if_neg (by omega), if_neg (by omega)]
          rfl
        · rw [if_neg (by rw [zI_le (by omega) (by omega)]; exact t3)]
          refine ⟨J3, ?_, F3⟩
          rcases (by omega : t = 0 ∨ t = 1) with rfl | rfl
          · unfold tw_at
            rw [if_pos (by decide), if_pos (by omega), u2 (by omega), ← m1 (by omega) (by omega)]
            rfl
          · unfold tw_at
            rw [if_pos (by decide), if_neg (by omega), if_pos (by omega), u3 (by omega), ← m2 (by omega)]
            rfl
    · rw [if_neg n2, if_neg n2]
      dsimp only
      rw [if_pos (show zI (-1) = (-1 : Int32) from rfl)]
      exact ⟨J3, rfl, F3⟩
  · rw [if_neg (by rw [zI_lit, zI_neg, zI_le (by omega) (by omega)]; exact t1)]
    refine ⟨J, ?_, FP.rf⟩
    by_cases n2 : n < 3
    · rw [if_pos n2, if_neg (by omega)]
      unfold tw_at
      rw [if_neg (by omega), if_neg (by omega)]
      rfl
    · rw [if_neg n2]
      rfl
theorem q_propped {I : tq_PI} {L : tq_PL} (V : HV I L 1 0) (x y u : Int32) : ∃ v L2, FX11_propped I L 0 x y u = some (v, L2) ∧ FP L L2 ∧ ∀ J M, J 137 = I 137 → ∃ J2, FX12_propped J M 136 x y u = some (v, J2) ∧ FP J J2 := by
  rcases hill_case V x with ⟨e, r⟩ | ⟨i, w, h, K, hi, rfl, e, H, S, r⟩
  · exact ⟨-1, L, by unfold FX11_propped; rw [rg_0_0, e, obind]; rfl, FP.rf, fun J M hJ => ⟨J, by unfold FX12_propped; rw [r J M hJ, obind]; rfl, FP.rf⟩⟩
  · obtain ⟨z, hz, rfl⟩ := zI_of y
    obtain ⟨t, ht, rfl⟩ := zI_of u
    have h48 := wh_le H.k
    have no : ∀ (g : ¬ (0 ≤ z ∧ z < ((w * h : Nat) : Int) ∧ sto K (pl w z.toNat) = true)) (J : tq_PI) (M : tq_PL), J 137 = I 137 → ∃ J2, FX12_propped J M 136 (zI (i : Int)) (zI z) (zI t) = some (-1, J2) ∧ FP J J2 := fun g J M hJ => by
      obtain ⟨J1, J2, h1, h2, R1, R2, G2, P1, P2, h3, h4, h5, h6, A⟩ := r J M hJ
      refine ⟨J1, ?_, P1⟩
      have ic := r_isCell R1 M hz
      by_cases g1 : 0 ≤ z ∧ z < ((w * h : Nat) : Int)
      · have g2 : sto K (pl w z.toNat) = false := by
          cases q : sto K (pl w z.toNat)
          · rfl
          · exact absurd ⟨g1.1, g1.2, q⟩ g
        clear g
        obtain ⟨c, rfl⟩ : ∃ c : Nat, z = c := ⟨z.toNat, by omega⟩
        have hA := A.2.2 c (by omega)
        have e9 : (((610 + 50 * i : Nat) : Int) + 2 + (c : Int)).toNat = 612 + 50 * i + c := by omega
        have hst := r_stone J1 M (H.le (pl w c))
        have sd : decide (1 ≤ K (pl w c) ∧ K (pl w c) ≤ 3) = sto K (pl w c) := rfl
        have g3 : sto K (pl w c) = false := g2
        rw [decide_eq_true g1] at ic
        unfold FX12_propped FX12_propped_j40
        rw [h1, obind, if_neg (show ¬ tq_b true = 0 by decide), zlet, ic, if_neg (show ¬ tq_b true = 0 by decide)]
        simp (disch := omega) only [h3, g0, e9, h5, hA, hst, sd, g3, zlet, obind, zI_lit, zI_neg, zI_add, zI_sub, zI_mul, zI_div, zI_le, zI_lt, zI_eq, zI_cl, irem, ile_t, ile_f, ilt_t, ilt_f, ieq_t, ieq_f, and_true, true_and, and_false, false_and, and_self, not_true_eq_false, not_false_eq_true, ↓reduceIte, Int.toNat_natCast, tqb_z, tqb_t, tqb_f]
      · rw [decide_eq_false g1] at ic
        unfold FX12_propped FX12_propped_j40
        rw [h1, obind, if_neg (show ¬ tq_b true = 0 by decide), zlet, ic, if_pos (show tq_b false = 0 from rfl)]
    by_cases g : 0 ≤ z ∧ z < ((w * h : Nat) : Int) ∧ sto K (pl w z.toNat) = true
    · obtain ⟨c, rfl⟩ : ∃ c : Nat, z = c := ⟨z.toNat, by omega⟩
      have hc : c < w * h := by omega
      obtain ⟨y, e1, hy⟩ := c_bitOf_t H hc
      have gs : sto K (pl w c) = true := g.2.2
      have hb := bb_and_one (x := FX3_stones I L (8 + 10 * i)) hy (by rw [c_sto H]; exact gs)
      have hnz : ¬ (FX3_stones I L (8 + 10 * i) &&& y) = 0 := fun q => by rw [q] at hb; have := congrFun hb (pl w c); rw [bb_0] at this; simp at this
      obtain ⟨n, q, s, L2, e2, F2, P2, h1, h2, h3⟩ := c_hold H (b := 48) (by omega) hb
      have n3 := PR_le P2
      have H2 := H.fl F2 (by omega)
      have core : ∀ (J : tq_PI) (M : tq_PL), J 137 = I 137 → ∃ J2, FX12_propped J M 136 (zI (i : Int)) (zI (c : Int)) (zI t) = some (zI (pr_ans n w q s t), J2) ∧ FP J J2 := fun J M hJ => by
        obtain ⟨J1, J2, k1, k2, R1, R2, G2, P3, P4, k3, k4, k5, k6, A⟩ := r J M hJ
        have RHJ : RH J1 i w h K := ⟨R1, k3, by rw [k5]; exact A, hi, H.le, H.z⟩
        obtain ⟨J3, e3, F3⟩ := r_prq RHJ M hc gs P2 ht
        refine ⟨J3, ?_, P3.tr F3⟩
        rw [← e3]
        have hA := A.2.2 c hc
        have e9 : (((610 + 50 * i : Nat) : Int) + 2 + (c : Int)).toNat = 612 + 50 * i + c := by omega
        have hst := r_stone J1 M (H.le (pl w c))
        have sd : decide (1 ≤ K (pl w c) ∧ K (pl w c) ≤ 3) = sto K (pl w c) := rfl
        have ic := r_isCell R1 M (z := (c : Int)) (by omega)
        rw [decide_eq_true (by omega)] at ic
        unfold FX12_propped
        rw [k1, obind, if_neg (show ¬ tq_b true = 0 by decide), zlet, ic, if_neg (show ¬ tq_b true = 0 by decide)]
        dsimp only
        have ea : J1 136 12 + 2 + zI (c : Int) = zI (((610 + 50 * i : Nat) : Int) + 2 + (c : Int)) := by rw [k3, show (2 : Int32) = zI 2 from rfl, zI_add, zI_add]
        rw [if_pos (by rw [ea, show (4016 : Int32) = zI 4016 from rfl, show (0 : Int32) = zI 0 from rfl, zI_le (by omega) (by omega), zI_lt (by omega) (by omega)]; omega), ea, zI_cl (by omega), e9, g0, k5, hA, hst, sd, gs, zlet, if_neg (show ¬ tq_b true = 0 by decide)]
      clear r
      refine ⟨_, L2, ?_, F2.fp (by unfold psl; omega), core⟩
      clear core
      unfold FX11_propped FX11_propped_j52
      rw [rg_0_0, e, obind, oel_s, zlet, e1, obind, if_neg (by rw [lgc]; exact hnz), rg_0_6, e2, obind]
      unfold pr_ans
      by_cases n2 : n < 3
      · rw [decide_eq_true n2, if_neg (show ¬ tq_b true = 0 by decide), if_pos n2]
        have hp := c_pick_two H2 (h1 n2) (by omega) (by omega) (by omega) (by omega) ht
        by_cases t2 : t = -1
        · rw [if_pos (by rw [t2]; rfl), if_pos t2, zlet, bc_eq, h1 n2, ct_two (by omega) (by omega)]
          congr 3
          split <;> split <;> omega
        · rw [if_neg (by rw [zI_lit, zI_neg, zI_eq (by omega) (by omega)]; exact t2), if_neg t2, hp, obind]
      · rw [decide_eq_false n2, if_pos (show tq_b false = 0 from rfl), if_neg n2]
        rfl
    · refine ⟨-1, L, ?_, FP.rf, no g⟩
      have : ∃ y, FX3_bitOf I L (8 + 10 * i) (zI z) = some y ∧ (FX3_stones I L (8 + 10 * i) &&& y) = 0 := by
        by_cases g1 : 0 ≤ z ∧ z < ((w * h : Nat) : Int)
        · obtain ⟨c, rfl⟩ : ∃ c : Nat, z = c := ⟨z.toNat, by omega⟩
          obtain ⟨y, e1, hy⟩ := c_bitOf_t H (c := c) (by omega)
          refine ⟨y, e1, (bb_hit hy).2 ?_⟩
          rw [c_sto H]
          cases q : sto K (pl w c)
          · rfl
          · exact absurd ⟨g1.1, g1.2, q⟩ g
        · exact ⟨0, c_bitOf_f H hz g1, bb_inj (by funext p; rw [bb_and, bb_0, Bool.and_false])⟩
      obtain ⟨y, e1, hy⟩ := this
      unfold FX11_propped FX11_propped_j52
      rw [rg_0_0, e, obind, oel_s, zlet, e1, obind, hy, if_pos (by rw [lgc])]
