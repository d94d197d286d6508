/-! PROPPED, by the reference, and the query. -/
theorem FG.fc {l : Nat} {I J : tq_PI} (F : FG l I J) : FC 140 I J := fun a q => funext fun j => F a j (Or.inl q)
theorem g32 : tq_rg 136 32 = 150 := by decide +kernel
def FQ (I J : tq_PI) : Prop := ∀ a, a ≠ 140 → a ≠ 150 → J a = I a
theorem FQ.rf {I : tq_PI} : FQ I I := fun _ _ _ => rfl
theorem FQ.tr {I J M : tq_PI} (h : FQ I J) (k : FQ J M) : FQ I M := fun a q r => (k a q r).trans (h a q r)
theorem FQ.up {I : tq_PI} {j : Nat} {x : Int32} : FQ I (tq_up2 I 150 j x) := fun _ _ q => tq_up2_ne q
theorem FC.fq {I J : tq_PI} (F : FC 140 I J) : FQ I J := fun a q _ => F a q
theorem FQ.fp {I J : tq_PI} (F : FQ I J) : FP I J := fun a p => F a (by unfold psl at p; omega) (by unfold psl at p; omega)
/-- the reference's hill, as it is looked up -/
def RH (J : tq_PI) (i w h : Nat) (K : Nat → Nat) : Prop := RW J w h ∧ J 136 12 = zI ((610 + 50 * i : Nat) : Int) ∧ HA (J 137) i w h K ∧ i < 2 ∧ (∀ p, K p ≤ 4) ∧ ∀ p, ar w h p = false → K p = 0
theorem RH.fq {I J : tq_PI} {i w h : Nat} {K : Nat → Nat} (R : RH I i w h K) (F : FQ I J) : RH J i w h K := by
  obtain ⟨⟨r1, r2, r3⟩, r4, r5, r6⟩ := R
  refine ⟨⟨?_, ?_, r3⟩, ?_, ?_, r6⟩
  · rw [F 136 (by omega) (by omega)]; exact r1
  · rw [F 136 (by omega) (by omega)]; exact r2
  · rw [F 136 (by omega) (by omega)]; exact r4
  · rw [F 137 (by omega) (by omega)]; exact r5
def pk (p q : Nat) (K : Nat → Nat) : Nat → Nat := if q = p then K else kup K q 4
theorem sta_los {h : Nat} {K : Nat → Nat} {p : Nat} (h48 : ∀ q, sol K q = true → q < 48) : los h K p = 0 ↔ sta h (sol (kup K p 0)) = true := by rw [los_0 h48, sta_iff]
theorem RH.told {J : tq_PI} {i w h : Nat} {K : Nat → Nat} (R : RH J i w h K) (M : tq_PL) : ∃ J2, FX12_asTold J M 136 = some J2 ∧ FC 140 J J2 ∧ RW J2 w h ∧ GR J2 w h 0 K := by
  obtain ⟨J2, e, F, G⟩ := r_asTold M R.1.2.2 R.2.2.2.1 R.2.2.1 R.2.2.2.2.1 R.2.2.2.2.2 R.2.1
  exact ⟨J2, e, F.fc, R.1.fg F, G⟩
theorem r_holds {J : tq_PI} {i w h : Nat} {K : Nat → Nat} (R : RH J i w h K) (M : tq_PL) {c a b : Nat} (hc : c < w * h) (ha : a < w * h) (hb : b < w * h) : ∃ J2, FX12_holds J M 136 (zI (c : Int)) (zI (a : Int)) (zI (b : Int)) = some (sta h (sol (kup (pk (pl w c) (pl w b) (pk (pl w c) (pl w a) K)) (pl w c) 0)), J2) ∧ FC 140 J J2 := by
  have k := R.1.2.2
  have h48 := wh_le k
  obtain ⟨J1, e1, F1, R1, G1⟩ := R.told M
  have st : ∀ (d : Nat) (Ja : tq_PI) (Ka : Nat → Nat), d < w * h → RW Ja w h → GR Ja w h 0 Ka → FC 140 J Ja → ∃ Jb, Jb = (if d = c then Ja else tq_up2 Ja 140 d (zI 4)) ∧ RW Jb w h ∧ GR Jb w h 0 (pk (pl w c) (pl w d) Ka) ∧ FC 140 J Jb := fun d Ja Ka hd Ra Ga Fa => by
    refine ⟨_, rfl, ?_⟩
    unfold pk
    by_cases q : d = c
    · rw [if_pos q, if_pos (by rw [q])]
      exact ⟨Ra, Ga, Fa⟩
    · rw [if_neg q, if_neg (fun e => q (pl_inj k e))]
      have hF : FG 0 Ja (tq_up2 Ja 140 d (zI 4)) := FG.up (by omega)
      have hG := Ga.up k hd (v := 4) (by omega)
      rw [show 48 * 0 + d = d by omega] at hG
      exact ⟨Ra.fg hF, hG, Fa.tr hF.fc⟩
  obtain ⟨J2, e2, R2, G2, F2⟩ := st a J1 K ha R1 G1 F1
  obtain ⟨J3, e3, R3, G3, F3⟩ := st b J2 _ hb R2 G2 F2
  obtain ⟨J4, e4, -, F4⟩ := r_los R3 G3 (by omega) M hc
  have e4' : FX12_taken J3 M 136 (zI 0) (zI (c : Int)) = some (zI (los h (pk (pl w c) (pl w b) (pk (pl w c) (pl w a) K)) (pl w c) : Nat), J4) := e4
  have l1 := los_le h (pk (pl w c) (pl w b) (pk (pl w c) (pl w a) K)) (pl w c)
  refine ⟨J4, ?_, F3.tr F4.fc⟩
  have e5 : FX12_holds_j28 J3 M 136 (zI (c : Int)) = some (sta h (sol (kup (pk (pl w c) (pl w b) (pk (pl w c) (pl w a) K)) (pl w c) 0)), J4) := by
    unfold FX12_holds_j28
    simp (disch := omega) only [zlet, obind, zI_lit, zI_neg, zI_add, zI_sub, zI_mul, zI_div, zI_le, zI_lt, zI_eq, zI_cl, irem, ile_t, ile_f, ilt_t, ilt_f, ieq_t, ieq_f, and_true, true_and, and_false, false_and, and_self, not_true_eq_false, not_false_eq_true, ↓reduceIte, Int.toNat_natCast, tqb_z, tqb_t, tqb_f, e4']
    have q := sta_los (h := h) (p := pl w c) (fun q r => sol_48 k G3 r)
    by_cases z : los h (pk (pl w c) (pl w b) (pk (pl w c) (pl w a) K)) (pl w c) = 0
    · rw [if_pos (by omega), q.1 z]
    · rw [if_neg (by omega)]
      cases g : sta h (sol (kup (pk (pl w c) (pl w b) (pk (pl w c) (pl w a) K)) (pl w c) 0))
      · rfl
      · exact absurd (q.2 g) z
  have e6 : FX12_holds_j16 J2 M 136 (zI (c : Int)) (zI (b : Int)) = FX12_holds_j28 J3 M 136 (zI (c : Int)) := by
    unfold FX12_holds_j16
    simp (disch := omega) only [zlet, obind, zI_lit, zI_neg, zI_add, zI_sub, zI_mul, zI_div, zI_le, zI_lt, zI_eq, zI_cl, irem, ile_t, ile_f, ilt_t, ilt_f, ieq_t, ieq_f, and_true, true_and, and_false, false_and, and_self, not_true_eq_false, not_false_eq_true, ↓reduceIte, Int.toNat_natCast, tqb_z, tqb_t, tqb_f, g15]
    rw [e3]
    by_cases q : b = c
    · rw [if_pos (by omega), if_pos q]
    · rw [if_neg (by omega), if_neg q]
  unfold FX12_holds
  simp (disch := omega) only [e1, zlet, obind, zI_lit, zI_neg, zI_add, zI_sub, zI_mul, zI_div, zI_le, zI_lt, zI_eq, zI_cl, irem, ile_t, ile_f, ilt_t, ilt_f, ieq_t, ieq_f, and_true, true_and, and_false, false_and, and_self, not_true_eq_false, not_false_eq_true, ↓reduceIte, Int.toNat_natCast, tqb_z, tqb_t, tqb_f, g15]
  rw [← e5, ← e6, e2]
  by_cases q : a = c
  · rw [if_pos (by omega), if_pos q]
  · rw [if_neg (by omega), if_neg q]
theorem air_zI {J : tq_PI} {i w h : Nat} {K : Nat → Nat} (R : RH J i w h K) {c : Nat} (hc : c < w * h) : (J 137 (612 + 50 * i + c) = zI 0) = (air w h K (pl w c) = true) := by
  rw [R.2.2.1.2.2 c hc]
  have := R.2.2.2.2.1 (pl w c)
  rw [zI_eq (by omega) (by omega)]
  unfold air
  rw [pl_ar R.1.2.2 hc]
  simp
theorem pk_1 {K : Nat → Nat} {p q : Nat} (h : q ≠ p) : kup (pk p q (pk p q K)) p 0 = kup (kup K p 0) q 4 := by
  unfold pk
  rw [if_neg h, if_neg h]
  have : kup (kup K q 4) q 4 = kup K q 4 := funext fun y => by unfold kup; by_cases e : y = q <;> simp [e]
  rw [this, kup_comm h]
theorem pk_2 {K : Nat → Nat} {p q r : Nat} (h1 : q ≠ p) (h2 : r ≠ p) : kup (pk p r (pk p q K)) p 0 = kup (kup (kup K p 0) q 4) r 4 := by
  unfold pk
  rw [if_neg h2, if_neg h1, kup_comm h2, kup_comm h1]
theorem pk_0 {K : Nat → Nat} {p : Nat} : kup (pk p p (pk p p K)) p 0 = kup K p 0 := by unfold pk; rw [if_pos rfl, if_pos rfl]
section RP
variable {i w h : Nat} {K : Nat → Nat}
theorem r_one {J : tq_PI} (R : RH J i w h K) (M : tq_PL) {c : Nat} (hc : c < w * h) (hs : sto K (pl w c) = true) : ∃ o, tq_it (fun p : Int32 × tq_PI => FX12_propsOf_s14 p.2 M 136 (zI (c : Int)) p.1) tq_N (zI ((0 : Nat) : Int), J) = some o ∧ ((∃ J2, o = .inl J2 ∧ FQ J J2 ∧ ∀ q, hd1 w h K (kup K (pl w c) 0) q = false) ∨ ∃ J2 d, o = .inr (zI 1, J2) ∧ FQ J J2 ∧ d < w * h ∧ J2 150 0 = zI (d : Int) ∧ hd1 w h K (kup K (pl w c) 0) (pl w d) = true ∧ ∀ q2, q2 < pl w d → hd1 w h K (kup K (pl w c) 0) q2 = false) := by
  have k := R.1.2.2
  have h48 := wh_le k
  have hi2 := R.2.2.2.1
  have low : ∀ d, d ≤ w * h → (∀ e, e < d → hd1 w h K (kup K (pl w c) 0) (pl w e) = false) → ∀ q2, q2 < pl w d → hd1 w h K (kup K (pl w c) 0) q2 = false := fun d hd he q2 hq => by
    cases ea : air w h K q2
    · simp [hd1, ea]
    · have aq := air_ar ea
      have := he (cl w q2) (by rw [← pl_lt_iff k, pl_cl k aq]; exact hq)
      rw [pl_cl k aq] at this
      exact this
  obtain ⟨o, e, ho⟩ := it_for (f := fun p : Int32 × tq_PI => FX12_propsOf_s14 p.2 M 136 (zI (c : Int)) p.1) (fun d (J1 : tq_PI) => (zI (d : Int), J1)) (w * h) (fun d J1 => FQ J J1 ∧ ∀ e, e < d → hd1 w h K (kup K (pl w c) 0) (pl w e) = false) (Post := fun o => (∃ J2, o = .inl J2 ∧ FQ J J2 ∧ ∀ e, e < w * h → hd1 w h K (kup K (pl w c) 0) (pl w e) = false) ∨ ∃ J2 d, o = .inr (zI 1, J2) ∧ FQ J J2 ∧ d < w * h ∧ J2 150 0 = zI (d : Int) ∧ hd1 w h K (kup K (pl w c) 0) (pl w d) = true ∧ ∀ e, e < d → hd1 w h K (kup K (pl w c) 0) (pl w e) = false) (fun d J1 hd hJ => by
    obtain ⟨F1, hJ⟩ := hJ
    have F2 : FQ J (tq_up2 J1 150 0 (zI (d : Int))) := F1.tr FQ.up
    have R2 := R.fq F2
    have hn : ∀ v, hd1 w h K (kup K (pl w c) 0) (pl w d) = v → v = false → ∀ q, q < d + 1 → hd1 w h K (kup K (pl w c) 0) (pl w q) = false := fun v e1 e2 q hq => by
      by_cases e : q = d
      · rw [e, e1, e2]
      · exact hJ q (by omega)
    obtain ⟨J3, e3, F3⟩ := r_holds R2 M hc hd hd
    have ez := air_zI R2 hd
    have hm := r_many (R.fq F1).1 M
    have h12 := R2.2.1
    unfold FX12_propsOf_s14 FX12_propsOf_j57L14
    simp (disch := omega) only [zlet, obind, zI_lit, zI_neg, zI_add, zI_sub, zI_mul, zI_div, zI_le, zI_lt, zI_eq, zI_cl, irem, ile_t, ile_f, ilt_t, ilt_f, ieq_t, ieq_f, and_true, true_and, and_false, false_and, and_self, not_true_eq_false, not_false_eq_true, ↓reduceIte, Int.toNat_natCast, tqb_z, tqb_t, tqb_f, hm, g32, g0, show (0 : Int).toNat = 0 from rfl, h12, e3]
    rw [show (((610 + 50 * i : Nat) : Int) + 2 + (d : Int)).toNat = 612 + 50 * i + d by omega]
    cases ea : air w h K (pl w d)
    · rw [if_neg (by rw [ez, ea]; simp)]
      exact Or.inl ⟨_, rfl, F2, hn _ rfl (by simp [hd1, ea])⟩
    · rw [if_pos (by rw [ez, ea])]
      have dc : pl w d ≠ pl w c := fun q => by
        rw [q] at ea
        simp [air] at ea
        simp [sto, ea.2] at hs
      rw [pk_1 dc]
      cases es : sta h (sol (kup (kup K (pl w c) 0) (pl w d) 4))
      · rw [if_pos rfl]
        exact Or.inl ⟨_, rfl, F2.tr F3.fq, hn _ rfl (by simp [hd1, es])⟩
      · rw [if_neg (by simp)]
        exact Or.inr ⟨_, rfl, Or.inr ⟨J3, d, rfl, F2.tr F3.fq, hd, by rw [F3 150 (by omega), up_s], by simp [hd1, ea, es], hJ⟩⟩) (fun J1 hJ => by
    unfold FX12_propsOf_s14
    simp (disch := omega) only [zlet, obind, zI_lit, zI_neg, zI_add, zI_sub, zI_mul, zI_div, zI_le, zI_lt, zI_eq, zI_cl, irem, ile_t, ile_f, ilt_t, ilt_f, ieq_t, ieq_f, and_true, true_and, and_false, false_and, and_self, not_true_eq_false, not_false_eq_true, ↓reduceIte, Int.toNat_natCast, tqb_z, tqb_t, tqb_f, r_many (R.fq hJ.1).1 M]
    exact ⟨_, rfl, Or.inl ⟨J1, rfl, hJ⟩⟩) 0 J (by omega) (by omega) ⟨FQ.rf, fun q hq => absurd hq (Nat.not_lt_zero q)⟩
  refine ⟨o, e, ?_⟩
  rcases ho with ⟨J2, rfl, F, ho⟩ | ⟨J2, d, rfl, F, h1, h2, h3, h4⟩
  · refine Or.inl ⟨J2, rfl, F, fun q => ?_⟩
    cases ea : air w h K q
    · simp [hd1, ea]
    · exact low (w * h) (Nat.le_refl _) ho q (pl_end k (air_ar ea))
  · exact Or.inr ⟨J2, d, rfl, F, h1, h2, h3, low d (by omega) h4⟩
end RP
