/-! THE LAW: every script. -/
theorem law_pure (S : Nat × (Nat → Int32)) (hS : S.1 ≤ 3072) : ∃ out, FL_law S tq_I0 tq_L0 = some out ∧ out.1 = true := by
  have hn : nI S.1 = zI (S.1 : Int) := nI_z _
  obtain ⟨b, e, I2, L2, rfl⟩ := it_m (f := fun p : Int32 × tq_PI × tq_PL => FL_law_s18 S p.2.1 p.2.2 0 136 p.1) (Inv := fun m a => ∃ (i : Nat) (I : tq_PI) (L : tq_PL), a = (zI (i : Int), I, L) ∧ i ≤ S.1 + 6 ∧ m = S.1 + 6 - i ∧ INV I L) (Post := fun b : (tq_PI × tq_PL) ⊕ (Bool × tq_PI × tq_PL) => ∃ I2 L2, b = .inl (I2, L2)) (fun m a ha => by
    obtain ⟨i, I, L, rfl, h1, rfl, N⟩ := ha
    dsimp only
    by_cases q : i + 6 ≤ S.1
    · obtain ⟨I2, L2, e, N2⟩ := law_step hS q N
      exact Or.inl ⟨_, S.1 + 6 - (i + 6), e, by omega, i + 6, I2, L2, rfl, by omega, rfl, N2⟩
    · refine Or.inr ⟨.inl (I, L), ?_, I, L, rfl⟩
      unfold FL_law_s18
      rw [if_pos (by rw [hn, show (6 : Int32) = zI 6 from rfl, zI_sub, zI_lt (by omega) (by omega)]; omega)]) tq_N (S.1 + 6) ((0 : Int32), tq_I0, tq_L0) (by rw [tq_N_eq]; omega) ⟨0, tq_I0, tq_L0, rfl, by omega, by omega, inv_0⟩
  refine ⟨(true, I2, L2), ?_, rfl⟩
  unfold FL_law
  rw [e, obind]
  rfl
