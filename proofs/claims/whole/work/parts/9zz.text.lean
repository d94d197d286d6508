/-! TEXT: the end of a hill's text, in both, together. -/
def FRE (I J : tq_PI) : Prop := ∀ b j, b ≠ 136 → b ≠ 139 → b ≠ 140 → (b ≠ 137 ∨ (j ≠ 5 ∧ j ≠ 6)) → J b j = I b j
section FT2
variable {I J : tq_PI} {L M : tq_PL} {B : Nat → Nat} {n p q : Nat} {x : Nat × Int}
theorem FRE.rf : FRE I I := fun _ _ _ _ _ _ => rfl
theorem FRE.tr {J K : tq_PI} (h : FRE I J) (k : FRE J K) : FRE I K := fun b j q r s t => (k b j q r s t).trans (h b j q r s t)
theorem FRD.re (F : FRD I J) : FRE I J := fun b j q r _ t => F b j r (Or.inl q) t
theorem t_finish (C : CRd I B n q x) (R : RRd J B n p x) (k0 : tK B n p = 0) (D : DR0 I L J x) : ∃ I2 L2 J2, FX7_finishHill I L 30 = (I2, L2) ∧ FP I I2 ∧ FP L L2 ∧ (∀ G : tq_PI → Option (Int32 × tq_PI), (if J 137 5 = 0 then (FX12_hillFault J M 136).bind (fun r => if r.1 = 0 then G r.2 else (FX12_also r.2 M 136 r.1 (r.2 136 4)).bind fun t => G t) else G J) = G J2) ∧ FRE J J2 ∧ (∃ f : Nat, f ≤ 5 ∧ I2 30 11 = zI (f : Int) ∧ J2 137 5 = zI (f : Int) ∧ (f = 0 → ∃ w h K, HC I2 L2 32 w h K ∧ Stn h K ∧ J2 139 0 = zI (w : Int) ∧ J2 139 1 = zI (h : Int) ∧ ∀ c, c < w * h → J2 139 (2 + c) = zI (K (pl w c) : Nat))) ∧ J2 137 6 = I2 30 12 := by
  have R0 := R
  obtain ⟨r1, r2, ⟨a3, a4, -, -, -⟩, r4, r5, r6, r7, r8⟩ := R0
  have c600 := r1.1
  have c11 : I 30 11 = zI (x.1 : Nat) := C.2.2.2.1
  have c12 : I 30 12 = zI x.2 := C.2.2.2.2.1
  have c7 : I 30 7 = zI (n : Int) := C.1.2.1
  by_cases hx : x.1 = 0
  · obtain ⟨r, l, h9, h10, hr, hl, hd⟩ := D
    obtain ⟨w, h, tl, K, HH⟩ := hd hx
    have HH0 := HH
    obtain ⟨d1, d2, d3, d4, d5, d6, d7, d8, d9, d10, d11, d12⟩ := HH0
    have d1' := d1
    obtain ⟨k1, k2, k3, k4⟩ := d1'
    have en : tS B n p = n := by
      have s1 := tS_le (B := B) r2
      unfold tK at k0
      split at k0
      · omega
      · split at k0
        · omega
        · split at k0
          · split at k0 <;> omega
          · split at k0 <;> omega
    rw [en] at a4
    have h11 : I 30 11 = 0 := by rw [c11, hx]; rfl
    have h5 : J 137 5 = 0 := by rw [r5, hx]; rfl
    have iff : (∃ p, tl p = true ∧ ar w h p = false) ↔ ((w : Int) ≤ r ∨ (h : Int) ≤ l) := by
      constructor
      · rintro ⟨p, p1, p2⟩
        have := d10 p p1
        unfold ar at p2
        simp only [Bool.and_eq_false_iff, decide_eq_false_iff_not] at p2
        omega
      · rintro (g | g)
        · rcases d11 with e | ⟨p, p1, p2⟩
          · omega
          · refine ⟨p, p1, ?_⟩
            unfold ar
            simp only [Bool.and_eq_false_iff, decide_eq_false_iff_not]
            omega
        · rcases d12 with e | ⟨p, p1, p2⟩
          · omega
          · refine ⟨p, p1, ?_⟩
            unfold ar
            simp only [Bool.and_eq_false_iff, decide_eq_false_iff_not]
            omega
    have hb4 : blm x false 4 n = (4, (n : Int)) := by unfold blm; rw [if_pos ⟨hx, rfl⟩]
    have hb5 : blm x false 5 n = (5, (n : Int)) := by unfold blm; rw [if_pos ⟨hx, rfl⟩]
    by_cases bad : ∃ p, tl p = true ∧ ar w h p = false
    · obtain ⟨I2, L2, e, b1, b2, b3, b4⟩ := c_fin_bad HH h11 c7 bad
      obtain ⟨J2, e2, j5, j6, F⟩ := r_also (M := M) (J := J) (x := x) (k := 4) (q := n) r4 r5 r6 r7 (fun h => absurd hx h) c600
      rw [hb4] at j5 j6
      have e2' : FX12_also J M 136 (4 : Int32) (zI (n : Int)) = some J2 := e2
      have hf : FX12_hillFault J M 136 = some ((4 : Int32), J) := by
        unfold FX12_hillFault FX12_hillFault_j26
        rw [if_pos i0_121, g11, e0n, e1n]
        by_cases g : (w : Int) ≤ r
        · rw [if_pos (by rw [d7, h9, zI_le (by omega) (by omega)]; exact g)]
        · have g2 : (h : Int) ≤ l := by
            rcases iff.1 bad with h | h
            · exact absurd h g
            · exact h
          rw [if_neg (by rw [d7, h9, zI_le (by omega) (by omega)]; exact g), if_pos i1_121, if_neg (by rw [d8, h10, zI_lt (by omega) (by omega)]; omega)]
      refine ⟨I2, L2, J2, e, b3, b4, fun G => ?_, fun b j _ _ _ t => F b j t, ⟨4, by omega, b1, j5, fun h => by omega⟩, by rw [j6, b2]⟩
      rw [if_pos h5, hf, obind, if_neg (show ¬ (4 : Int32) = 0 by decide)]
      dsimp only
      rw [a4, e2', obind]
    · have hb : ∀ p, tl p = true → ar w h p = true := fun p hp => by
        cases e : ar w h p
        · exact absurd ⟨p, hp, e⟩ bad
        · rfl
      have ng : ¬ ((w : Int) ≤ r ∨ (h : Int) ≤ l) := fun g => bad (iff.2 g)
      obtain ⟨I2, L2, e, H, b3, b4, hc⟩ := c_fin_ok HH h11 c7 hb
      obtain ⟨X, eX, FX2, ⟨X0, X1⟩, VX, WX⟩ := r_settles (M := M) (J := J) d1 d7 d8
      obtain ⟨Z, hZ⟩ : ∃ Z, Z = tq_up2 (tq_up2 X 136 13 (zI (w : Int))) 136 14 (zI (h : Int)) := ⟨_, rfl⟩
      have z136 : ∀ j, j ≠ 13 → j ≠ 14 → Z 136 j = J 136 j := fun j h1 h2 => by rw [hZ, up_n _ _ (by omega), up_n _ _ (by omega), FX2 136 (by omega) (by omega)]
      have zX : ∀ b, b ≠ 136 → Z b = X b := fun b hb => by rw [hZ, up_row hb, up_row hb]
      have z137 : Z 137 = J 137 := by rw [zX 137 (by omega), FX2 137 (by omega) (by omega)]
      have kv : ∀ c, c < w * h → J 139 (2 + pl w c) = zI (kfin w h tl K (pl w c) : Nat) := fun c hc => by
        rw [d9 _ (pl_48 d1 hc)]
        unfold kfin
        rw [pl_ar d1 hc, if_pos rfl]
      have RZ : RW Z w h := ⟨by rw [hZ, up_n _ _ (by omega), up_s], by rw [hZ, up_s], d1⟩
      have GZ : GR Z w h 0 (kfin w h tl K) := ⟨fun c hc => by rw [zX 140 (by omega), show 48 * 0 + c = c by omega, VX c hc]; exact kv c hc, H.le, H.z⟩
      have fr : FRE J Z := fun b j q1 q2 q3 _ => by rw [zX b q1, FX2 b q2 q3]
      have hf : FX12_hillFault J M 136 = (FX12_firstThatFalls Z M 136 (zI ((0 : Nat) : Int))).bind fun t => if t = (-1 : Int32) then some ((0 : Int32), Z) else some ((5 : Int32), Z) := by
        unfold FX12_hillFault
        rw [if_pos i0_121, g11, e0n, e1n, if_neg (by rw [d7, h9, zI_le (by omega) (by omega)]; omega), if_pos i1_121, if_pos (by rw [d8, h10, zI_lt (by omega) (by omega)]; omega), eX, obind, if_pos i0_121, if_pos i1_121, X0, up_n _ _ (by omega), X1, ← hZ]
        rfl
      rcases r_first RZ GZ (by omega) M with ⟨ef, hst⟩ | ⟨c, c1, ef, s1, s2⟩
      · rcases hc with ⟨st, rfl⟩ | ⟨st, -, -⟩
        · refine ⟨I2, L2, Z, e, b3, b4, fun G => ?_, fr, ⟨0, by omega, h11, by rw [z137]; exact h5, fun _ => ⟨w, h, _, H, st, by rw [zX 139 (by omega)]; exact X0, by rw [zX 139 (by omega)]; exact X1, fun c hc => by rw [zX 139 (by omega), WX c hc]; exact kv c hc⟩⟩, by rw [z137, r6, c12]⟩
          rw [if_pos h5, hf, ef, obind, if_pos (show zI (-1) = (-1 : Int32) from rfl), obind, if_pos rfl]
        · exact absurd hst st
      · rcases hc with ⟨st, -⟩ | ⟨st, b5, b6⟩
        · have := st _ s1
          rw [s2] at this
          cases this
        · have h48 := wh_le d1
          obtain ⟨J2, e2, j5, j6, F⟩ := r_also (M := M) (J := Z) (x := x) (k := 5) (q := n) (by rw [z136 _ (by omega) (by omega)]; exact r4) (by rw [z137]; exact r5) (by rw [z137]; exact r6) r7 (fun h => absurd hx h) c600
          rw [hb5] at j5 j6
          have e2' : FX12_also Z M 136 (5 : Int32) (zI (n : Int)) = some J2 := e2
          refine ⟨I2, L2, J2, e, b3, b4, fun G => ?_, fr.tr (fun b j _ _ _ t => F b j t), ⟨5, by omega, b5, j5, fun h => by omega⟩, by rw [j6, b6]⟩
          rw [if_pos h5, hf, ef, obind, if_neg (by rw [show (-1 : Int32) = zI (-1) from rfl, zI_eq (by omega) (by omega)]; omega), obind, if_neg (show ¬ (5 : Int32) = 0 by decide)]
          dsimp only
          rw [z136 _ (by omega) (by omega), a4, e2', obind]
  · have n11 : ¬ I 30 11 = 0 := by rw [c11, show (0 : Int32) = zI 0 from rfl, zI_eq (by omega) (by omega)]; omega
    have n5 : ¬ J 137 5 = 0 := by rw [r5, show (0 : Int32) = zI 0 from rfl, zI_eq (by omega) (by omega)]; omega
    obtain ⟨L2, e, F⟩ := c_fin_f (L := L) n11
    refine ⟨I, L2, J, e, FP.rf, F, fun G => by rw [if_neg n5], FRE.rf, ⟨x.1, r7, c11, r5, fun h => absurd h hx⟩, by rw [r6, c12]⟩
end FT2
