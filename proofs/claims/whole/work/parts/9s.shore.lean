/-! SHORED: the reference's walk, and the query. -/
def FV (I J : tq_PI) : Prop := ∀ a, a ≠ 140 → a ≠ 141 → a ≠ 146 → J a = I a
theorem FV.rf {I : tq_PI} : FV I I := fun _ _ _ _ => rfl
theorem FV.tr {I J M : tq_PI} (h : FV I J) (k : FV J M) : FV I M := fun a q r s => (k a q r s).trans (h a q r s)
theorem FV.up {I : tq_PI} {j : Nat} {x : Int32} : FV I (tq_up2 I 146 j x) := fun _ _ _ q => tq_up2_ne q
theorem FU.fv {I J : tq_PI} (F : FU I J) : FV I J := fun a q r _ => F a q r
theorem FV.fp {I J : tq_PI} (F : FV I J) : FP I J := fun a p => F a (by unfold psl at p; omega) (by unfold psl at p; omega) (by unfold psl at p; omega)
theorem RH.fv {I J : tq_PI} {i w h : Nat} {K : Nat → Nat} (R : RH I i w h K) (F : FV I J) : RH J i w h K := by
  obtain ⟨⟨r1, r2, r3⟩, r4, r5, r6⟩ := R
  refine ⟨⟨?_, ?_, r3⟩, ?_, ?_, r6⟩
  · rw [F 136 (by omega) (by omega) (by omega)]; exact r1
  · rw [F 136 (by omega) (by omega) (by omega)]; exact r2
  · rw [F 136 (by omega) (by omega) (by omega)]; exact r4
  · rw [F 137 (by omega) (by omega) (by omega)]; exact r5
section ST
variable {w h : Nat} {K : Nat → Nat}
def Dr (N n c d : Nat) : Prop := (n = 0 ∧ c = 0 ∧ d = 0) ∨ (n = 1 ∧ c < N ∧ d = 0) ∨ (n = 2 ∧ c < d ∧ d < N)
def XR (w h n i j q r : Nat) : Prop := ∃ c d, q = pl w c ∧ r = pl w d ∧ Dr (w * h) n c d ∧ (c < i ∨ (c = i ∧ d < j))
def RS (w h : Nat) (K : Nat → Nat) (n : Nat) (J0 : tq_PI) (X : Nat → Nat → Prop) (v : Int32) (J : tq_PI) : Prop := FV J0 J ∧ ∃ (z : Int) (c d : Nat), PI (fsh w h K n) X z (pl w c) (pl w d) ∧ (-1 ≤ z ∧ z ≤ 128) ∧ v = zI z ∧ (0 ≤ z → J 146 0 = zI (c : Int) ∧ J 146 1 = zI (d : Int))
theorem RS.same {n : Nat} {J0 J : tq_PI} {v : Int32} {X Y : Nat → Nat → Prop} (S : RS w h K n J0 X v J) (h1 : ∀ a b, X a b → Y a b) (h2 : ∀ a b, Y a b → X a b ∨ fsh w h K n a b = -1) : RS w h K n J0 Y v J := by
  obtain ⟨s1, z, c, d, s3, s4⟩ := S
  exact ⟨s1, z, c, d, s3.same h1 h2, s4⟩
theorem r_sh_in {J0 J : tq_PI} {i n a : Nat} {v : Int32} (R : RH J0 i w h K) (S : Stn h K) (M : tq_PL) (u : Int32) (hn : n ≤ 2) (ha : a < if n = 0 then 1 else w * h) (Q : RS w h K n J0 (XR w h n a 0) v J) : ∃ v2 J2, tq_it (fun p : Int32 × Int32 × tq_PI => FX12_shored_s68 p.2.2 M 136 (zI (n : Int)) u (zI (a : Int)) p.1 p.2.1) tq_N (v, zI ((if n = 2 then a + 1 else 0 : Nat) : Int), J) = some (v2, J2) ∧ RS w h K n J0 (XR w h n (a + 1) 0) v2 J2 := by
  have k := R.1.2.2
  have h48 := wh_le k
  have h4 := wh_ge k
  have ha2 : a < w * h := by split at ha <;> omega
  obtain ⟨nb, hnb⟩ : ∃ nb : Nat, nb = if n = 2 then w * h else 1 := ⟨_, rfl⟩
  have hnb2 : (n = 2 ∧ nb = w * h) ∨ (n ≠ 2 ∧ nb = 1) := by split at hnb <;> omega
  obtain ⟨⟨v2, J2⟩, e, ho⟩ := it_for (f := fun p : Int32 × Int32 × tq_PI => FX12_shored_s68 p.2.2 M 136 (zI (n : Int)) u (zI (a : Int)) p.1 p.2.1) (fun b (s : Int32 × tq_PI) => (s.1, zI (b : Int), s.2)) nb (fun b s => (n = 2 → a < b) ∧ RS w h K n J0 (XR w h n a b) s.1 s.2) (Post := fun s => RS w h K n J0 (XR w h n a nb) s.1 s.2) (fun b s hb hs => by
    obtain ⟨v1, J1⟩ := s
    obtain ⟨hab, F1, z, c, d, P1, z1, hv, hz⟩ := hs
    dsimp only at hv hz F1 ⊢
    subst hv
    have R1 := R.fv F1
    have hb2 : b < w * h := by omega
    have e68 : FX12_shored_s68 J1 M 136 (zI (n : Int)) u (zI (a : Int)) (zI z) (zI (b : Int)) = FX12_shored_j83L68 J1 M 136 (zI (n : Int)) u (zI z) (zI (a : Int)) (zI (b : Int)) (zI (nb : Int)) (zI (b : Int)) := by
      unfold FX12_shored_s68
      by_cases n2 : n = 2
      · rw [if_neg (by rw [zI_lit, zI_le (by omega) (by omega)]; omega), zlet, r_many R1.1 M]
        congr 2
        omega
      · rw [if_pos (by rw [zI_lit, zI_le (by omega) (by omega)]; omega), show nb = 1 by omega]
        rfl
    rw [e68]
    obtain ⟨J3, e3, F3⟩ := r_shb R1 S M hn ha2 hb2 hab
    have frg := fsh_rg w h K n (pl w a) (pl w b)
    unfold FX12_shored_j83L68 FX12_shored_j127L68
    rw [if_neg (by rw [zI_le (by omega) (by omega)]; omega), e3, obind]
    have A := PI.add (s := pl w a) (t := pl w b) (Y := XR w h n a (b + 1)) (fun a b => (fsh_rg w h K n a b).1) P1 (fun q r x => by
      obtain ⟨c, d, rfl, rfl, x1, x2⟩ := x
      unfold lx
      rw [pl_lt_iff k, pl_lt_iff k]
      rcases x2 with x2 | x2
      · exact Or.inl x2
      · exact Or.inr ⟨by rw [x2.1], x2.2⟩) (fun q r x => by
      obtain ⟨c, d, x0, x00, x1, x2⟩ := x
      exact ⟨c, d, x0, x00, x1, by omega⟩) (fun q r x => by
      obtain ⟨c, d, x0, x00, x1, x2⟩ := x
      by_cases g : c = a ∧ d = b
      · exact Or.inr (Or.inr ⟨by rw [x0, g.1], by rw [x00, g.2]⟩)
      · exact Or.inl ⟨c, d, x0, x00, x1, by omega⟩) ⟨a, b, rfl, rfl, by unfold Dr; split at ha <;> omega, by omega⟩
    dsimp only
    have eb1 : zI (b : Int) + 1 = zI ((b + 1 : Nat) : Int) := by rw [zI_lit, zI_add]; rfl
    rw [eb1]
    by_cases g : z < fsh w h K n (pl w a) (pl w b)
    · rw [if_pos g] at A
      rw [if_pos (by rw [zI_lt (by omega) (by omega)]; exact g), if_pos (by decide), if_pos (by decide), g25]
      refine Or.inl ⟨(zI (fsh w h K n (pl w a) (pl w b)), tq_up2 (tq_up2 J3 146 0 (zI (a : Int))) 146 1 (zI (b : Int))), rfl, by omega, ((F1.tr F3.fv).tr FV.up).tr FV.up, _, a, b, A, frg, rfl, fun _ => ⟨?_, ?_⟩⟩
      · dsimp only
        rw [up_n _ _ (by omega), up_s]
      · dsimp only
        rw [up_s]
    · rw [if_neg g] at A
      rw [if_neg (by rw [zI_lt (by omega) (by omega)]; exact g)]
      exact Or.inl ⟨(zI z, J3), rfl, by omega, F1.tr F3.fv, z, c, d, A, z1, rfl, fun g2 => by dsimp only; rw [F3 146 (by omega) (by omega)]; exact hz g2⟩) (fun s hs => by
    obtain ⟨v1, J1⟩ := s
    have R1 := R.fv hs.2.1
    dsimp only
    have e68 : FX12_shored_s68 J1 M 136 (zI (n : Int)) u (zI (a : Int)) v1 (zI (nb : Int)) = FX12_shored_j83L68 J1 M 136 (zI (n : Int)) u v1 (zI (a : Int)) (zI (nb : Int)) (zI (nb : Int)) (zI (nb : Int)) := by
      unfold FX12_shored_s68
      by_cases n2 : n = 2
      · rw [if_neg (by rw [zI_lit, zI_le (by omega) (by omega)]; omega), zlet, r_many R1.1 M]
        congr 2
        omega
      · rw [if_pos (by rw [zI_lit, zI_le (by omega) (by omega)]; omega), show nb = 1 by omega]
        rfl
    rw [e68]
    unfold FX12_shored_j83L68
    rw [if_pos (by rw [zI_le (by omega) (by omega)]; omega)]
    exact ⟨_, rfl, hs.2⟩) (if n = 2 then a + 1 else 0) (v, J) (by split <;> omega) (by omega) ⟨by intro; split <;> omega, Q.same (fun q r x => by
      obtain ⟨c, d, x0, x00, x1, x2⟩ := x
      exact ⟨c, d, x0, x00, x1, by omega⟩) (fun q r x => by
      obtain ⟨c, d, x0, x00, x1, x2⟩ := x
      refine Or.inl ⟨c, d, x0, x00, x1, ?_⟩
      unfold Dr at x1
      split at x2 <;> omega)⟩
  refine ⟨v2, J2, e, RS.same ho (fun q r x => ?_) (fun q r x => ?_)⟩
  · obtain ⟨c, d, x0, x00, x1, x2⟩ := x
    exact ⟨c, d, x0, x00, x1, by omega⟩
  · obtain ⟨c, d, x0, x00, x1, x2⟩ := x
    refine Or.inl ⟨c, d, x0, x00, x1, ?_⟩
    unfold Dr at x1
    omega
theorem r_sh_out {J0 : tq_PI} {i n : Nat} (R : RH J0 i w h K) (S : Stn h K) (M : tq_PL) (u : Int32) (hn : n ≤ 2) : ∃ v2 J2, tq_it (fun p : Int32 × Int32 × tq_PI => FX12_shored_s36 p.2.2 M 136 (zI (n : Int)) u p.1 p.2.1) tq_N (zI (-1), zI ((0 : Nat) : Int), J0) = some (v2, J2) ∧ RS w h K n J0 (Dsh n) v2 J2 := by
  have k := R.1.2.2
  have h48 := wh_le k
  have h4 := wh_ge k
  obtain ⟨no, hno⟩ : ∃ no : Nat, no = if n = 0 then 1 else w * h := ⟨_, rfl⟩
  have hno2 : (n = 0 ∧ no = 1) ∨ (n ≠ 0 ∧ no = w * h) := by split at hno <;> omega
  have e36 : ∀ (J1 : tq_PI) (v1 : Int32) (a : Nat), FV J0 J1 → FX12_shored_s36 J1 M 136 (zI (n : Int)) u v1 (zI (a : Int)) = FX12_shored_j50L36 J1 M 136 (zI (n : Int)) u v1 (zI (a : Int)) (zI (no : Int)) (zI (a : Int)) := fun J1 v1 a F1 => by
    unfold FX12_shored_s36
    by_cases n0 : n = 0
    · rw [if_pos (by rw [zI_lit, zI_le (by omega) (by omega)]; omega), show no = 1 by omega]
      rfl
    · rw [if_neg (by rw [zI_lit, zI_le (by omega) (by omega)]; omega), zlet, r_many (R.fv F1).1 M]
      congr 2
      omega
  obtain ⟨⟨v2, J2⟩, e, ho⟩ := it_for (f := fun p : Int32 × Int32 × tq_PI => FX12_shored_s36 p.2.2 M 136 (zI (n : Int)) u p.1 p.2.1) (fun a (s : Int32 × tq_PI) => (s.1, zI (a : Int), s.2)) no (fun a s => RS w h K n J0 (XR w h n a 0) s.1 s.2) (Post := fun s => RS w h K n J0 (XR w h n no 0) s.1 s.2) (fun a s ha hs => by
    obtain ⟨v1, J1⟩ := s
    dsimp only at hs ⊢
    rw [e36 J1 v1 a hs.1]
    obtain ⟨v3, J3, e3, Q3⟩ := r_sh_in R S M u hn (a := a) (by rw [← hno]; exact ha) hs
    have ea1 : zI (a : Int) + 1 = zI ((a + 1 : Nat) : Int) := by rw [zI_lit, zI_add]; rfl
    have ej : FX12_shored_j50L36 J1 M 136 (zI (n : Int)) u v1 (zI (a : Int)) (zI (no : Int)) (zI (a : Int)) = FX12_shored_j66L36 J1 M 136 (zI (n : Int)) u v1 (zI (a : Int)) (zI ((if n = 2 then a + 1 else 0 : Nat) : Int)) := by
      unfold FX12_shored_j50L36
      rw [if_neg (by rw [zI_le (by omega) (by omega)]; omega)]
      by_cases n2 : n = 2
      · rw [if_neg (by rw [zI_lit, zI_le (by omega) (by omega)]; omega), if_pos n2, ea1]
      · rw [if_pos (by rw [zI_lit, zI_le (by omega) (by omega)]; omega), if_neg n2]
        rfl
    rw [ej]
    unfold FX12_shored_j66L36
    rw [e3, obind, ea1]
    exact Or.inl ⟨(v3, J3), rfl, Q3⟩) (fun s hs => by
    obtain ⟨v1, J1⟩ := s
    dsimp only at hs ⊢
    rw [e36 J1 v1 no hs.1]
    unfold FX12_shored_j50L36
    rw [if_pos (by rw [zI_le (by omega) (by omega)]; omega)]
    exact ⟨_, rfl, hs⟩) 0 (zI (-1), J0) (by omega) (by omega) ⟨FV.rf, -1, 0, 0, Or.inl ⟨rfl, fun s t x => by obtain ⟨c, d, _, _, _, x⟩ := x; omega⟩, by omega, rfl, by omega⟩
  refine ⟨v2, J2, e, RS.same ho (fun q r x => ?_) (fun q r x => ?_)⟩
  · obtain ⟨c, d, rfl, rfl, x1, x2⟩ := x
    have p0 : pl w 0 = 0 := by unfold pl; rw [Nat.zero_div, Nat.zero_mod]
    unfold Dr at x1
    unfold Dsh
    rcases x1 with ⟨g1, g2, g3⟩ | ⟨g1, g2, g3⟩ | ⟨g1, g2, g3⟩
    · rw [g2, g3, p0]; omega
    · rw [g3, p0]; omega
    · exact Or.inr (Or.inr ⟨g1, pl_lt k g2⟩)
  · have p0 : pl w 0 = 0 := by unfold pl; rw [Nat.zero_div, Nat.zero_mod]
    unfold Dsh at x
    rcases x with ⟨g1, g2, g3⟩ | ⟨g1, g2⟩ | ⟨g1, g2⟩
    · exact Or.inl ⟨0, 0, by rw [p0]; exact g2, by rw [p0]; exact g3, Or.inl ⟨g1, rfl, rfl⟩, by omega⟩
    · cases ea : air w h K q
      · right
        unfold fsh
        rw [ea, if_neg (by omega), if_pos g1]
        simp
      · have aq := air_ar ea
        exact Or.inl ⟨cl w q, 0, (pl_cl k aq).symm, by rw [p0]; exact g2, Or.inr (Or.inl ⟨g1, cl_lt k aq, rfl⟩), by have := cl_lt k aq; omega⟩
    · cases ea : air w h K q
      · right
        unfold fsh
        rw [ea, if_neg (by omega), if_neg (by omega)]
        simp
      · cases eb : air w h K r
        · right
          unfold fsh
          rw [eb, if_neg (by omega), if_neg (by omega)]
          simp
        · have aq := air_ar ea
          have br := air_ar eb
          refine Or.inl ⟨cl w q, cl w r, (pl_cl k aq).symm, (pl_cl k br).symm, Or.inr (Or.inr ⟨g1, ?_, cl_lt k br⟩), by have := cl_lt k aq; omega⟩
          rw [← pl_lt_iff k, pl_cl k aq, pl_cl k br]
          exact g2
end ST
theorem q_shored {I : tq_PI} {L : tq_PL} (V : HV I L 1 0) (x y u : Int32) : ∃ v I2 L2, FX11_shored I L 0 x y u = some (v, I2, L2) ∧ (FP I I2 ∧ FP L L2) ∧ ∀ J M, J 137 = I 137 → ∃ J2, FX12_shored J M 136 x y u = some (v, J2) ∧ FP J J2 := by
  rcases hill_case V x with ⟨e, r⟩ | ⟨i, w, h, K, hi, rfl, e, H, S, r⟩
  · exact ⟨-1, I, L, by unfold FX11_shored; rw [rg_0_0, e, obind]; rfl, ⟨FP.rf, FP.rf⟩, fun J M hJ => ⟨J, by unfold FX12_shored; rw [r J M hJ, obind]; rfl, FP.rf⟩⟩
  · obtain ⟨z, hz, rfl⟩ := zI_of y
    obtain ⟨t, ht, rfl⟩ := zI_of u
    have h48 := wh_le H.k
    have t0 : tq_b false = 0 := rfl
    have t1 : ¬ tq_b true = 0 := by decide
    have c1 : (-1 : Int32) = zI (-1) := rfl
    by_cases g : 0 ≤ z ∧ z ≤ 2
    · obtain ⟨n, rfl⟩ : ∃ n : Nat, z = n := ⟨z.toNat, by omega⟩
      obtain ⟨I2, L2, e1, F1, F2, v, q, s, P, v1, v2, v3⟩ := c_shore H (by omega) (n := n) (by omega)
      have H2 := (H.fi F1 (by omega)).fl F2 (by omega)
      refine ⟨zI (if t = -1 then v else if v = -1 then -1 else tw_at n w q s t), I2, L2, ?_, ⟨F1.fp (by unfold psl; omega), F2.fp (by unfold psl; omega)⟩, fun J M hJ => ?_⟩
      · unfold FX11_shored
        rw [rg_0_0, e, obind, oel_s, if_neg (by rw [zI_lit, zI_lt (by omega) (by omega)]; omega), if_pos (by rw [zI_lit, zI_le (by omega) (by omega)]; omega), rg_0_6, e1, obind]
        dsimp only
        by_cases t2 : t = -1
        · rw [if_pos (by rw [t2]; rfl), if_pos t2, v2]
        · rw [if_neg (by rw [c1, zI_eq (by omega) (by omega)]; exact t2), if_neg t2]
          by_cases q2 : v = -1
          · rw [if_pos (by rw [v2, q2]; rfl), if_pos q2]
            rfl
          · rw [if_neg (by rw [v2, c1, zI_eq (by omega) (by omega)]; exact q2), if_neg q2]
            have fr : n ≠ 0 → air w h K q = true ∧ (n = 2 → air w h K s = true ∧ q < s) := fun n0 => by
              rcases P with ⟨p1, _⟩ | ⟨p1, p2, p3, _⟩
              · omega
              · unfold fsh at p3
                rw [if_neg n0] at p3
                by_cases n1 : n = 1
                · rw [if_pos n1] at p3
                  cases ea : air w h K q
                  · rw [ea] at p3; simp at p3; omega
                  · exact ⟨rfl, by omega⟩
                · rw [if_neg n1] at p3
                  cases ea : air w h K q
                  · rw [ea] at p3; simp at p3; omega
                  · cases eb : air w h K s
                    · rw [eb] at p3; simp at p3; omega
                    · exact ⟨rfl, fun _ => ⟨rfl, by unfold Dsh at p2; omega⟩⟩
            have hp := c_pick_two H2 (v3 (by omega)) (by omega) (fun h2 => ((fr (by omega)).2 (by omega)).2) (fun h1 => air_48 H.k (fr (by omega)).1) (fun h2 => air_48 H.k ((fr (by omega)).2 (by omega)).1) ht
            rw [hp, obind]
      · obtain ⟨J1, J2, k1, k2, R1, R2, G2, P3, P4, k3, k4, k5, k6, A⟩ := r J M hJ
        have RHJ : RH J1 i w h K := ⟨R1, k3, by rw [k5]; exact A, hi, H.le, H.z⟩
        have en : zI (n : Int) - 1 = zI ((n : Int) - 1) := by rw [zI_lit, zI_sub]
        unfold FX12_shored
        rw [k1, obind]
        dsimp only
        rw [if_neg t1, zlet, show (0 : Int32) = zI 0 from rfl, show (2 : Int32) = zI 2 from rfl, r_isIn _ _ (by omega) (by omega) (by omega), decide_eq_true (by omega), show zI 0 = (0 : Int32) from rfl, if_neg t1, zlet, en, c1, r_isIn _ _ (by omega) (by omega) (by omega)]
        by_cases g2 : -1 ≤ t ∧ t ≤ (n : Int) - 1
        · obtain ⟨w2, J3, e3, F3, z2, c, d, P5, z3, rfl, z4⟩ := r_sh_out RHJ S M (zI t) (n := n) (by omega)
          obtain ⟨u1, u2⟩ := PI_one P P5
          subst u1
          have e3' : tq_it (fun p : Int32 × Int32 × tq_PI => FX12_shored_s36 p.2.2 M 136 (zI (n : Int)) (zI t) p.1 p.2.1) tq_N (zI (-1), (0 : Int32), J1) = some (zI v, J3) := e3
          rw [decide_eq_true g2, if_neg t1, e3', obind]
          dsimp only
          refine ⟨J3, ?_, P3.tr F3.fp⟩
          unfold FX12_shored_j150
          by_cases q2 : v = -1
          · rw [if_pos (by rw [q2]), q2]
            congr 3
            split
            · rfl
            · rw [if_pos rfl]
          · rw [if_neg (by rw [zI_eq (by omega) (by omega)]; exact q2)]
            by_cases t2 : t = -1
            · rw [if_pos (by rw [t2]), if_pos t2]
            · rw [if_neg (by rw [zI_eq (by omega) (by omega)]; exact t2), if_neg t2, if_neg q2, if_pos (by rw [show (0 : Int32) = zI 0 from rfl, zI_le (by omega) (by omega), zI_lt (by omega) (by omega)]; omega), g25]
              obtain ⟨u3, u4⟩ := u2 (by omega)
              obtain ⟨z5, z6⟩ := z4 (by omega)
              unfold tw_at
              rcases (by omega : t = 0 ∨ t = 1) with rfl | rfl
              · rw [if_pos (by omega), u3, cl_pl H.k, ← z5]
                rfl
              · rw [if_neg (by omega), if_pos (by omega), u4, cl_pl H.k, ← z6]
                rfl
        · rw [decide_eq_false g2, if_pos t0]
          refine ⟨J1, ?_, P3⟩
          rw [if_neg (by omega)]
          have : tw_at n w q s t = -1 := by unfold tw_at; rw [if_neg (by omega), if_neg (by omega)]
          rw [this]
          congr 3
          split <;> rfl
    · refine ⟨-1, I, L, ?_, ⟨FP.rf, FP.rf⟩, fun J M hJ => ?_⟩
      · unfold FX11_shored
        rw [rg_0_0, e, obind, oel_s]
        by_cases z0 : z < 0
        · rw [if_pos (by rw [zI_lit, zI_lt (by omega) (by omega)]; exact z0)]
          rfl
        · rw [if_neg (by rw [zI_lit, zI_lt (by omega) (by omega)]; exact z0), if_neg (by rw [zI_lit, zI_le (by omega) (by omega)]; omega)]
          rfl
      · obtain ⟨J1, J2, k1, k2, R1, R2, G2, P3, P4, -⟩ := r J M hJ
        refine ⟨J1, ?_, P3⟩
        unfold FX12_shored
        rw [k1, obind]
        dsimp only
        rw [if_neg t1, zlet, show (0 : Int32) = zI 0 from rfl, show (2 : Int32) = zI 2 from rfl, r_isIn _ _ (by omega) (by omega) (by omega), decide_eq_false g, show zI 0 = (0 : Int32) from rfl, if_pos t0]
        rfl
