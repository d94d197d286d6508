/-! TEXT: a line by the class, whole; two loops side by side. -/
theorem it_2 {α β γ δ : Type} {f : α → Option (α ⊕ β)} {g : γ → Option (γ ⊕ δ)} {R : Nat → α → γ → Prop} {Post : β → δ → Prop} (step : ∀ m a c, R m a c → (∃ a2 c2 m2, f a = some (.inl a2) ∧ g c = some (.inl c2) ∧ m2 < m ∧ R m2 a2 c2) ∨ (∃ b d, f a = some (.inr b) ∧ g c = some (.inr d) ∧ Post b d) ∨ ∃ b c2 d, f a = some (.inr b) ∧ g c = some (.inl c2) ∧ g c2 = some (.inr d) ∧ Post b d) : ∀ (N m : Nat) (a : α) (c : γ), m + 1 < N → R m a c → ∃ b d, tq_it f N a = some b ∧ tq_it g N c = some d ∧ Post b d
  | 0, m, a, c, h, _ => absurd h (Nat.not_lt_zero _)
  | N + 1, m, a, c, h, hr => by
    rcases step m a c hr with ⟨a2, c2, m2, e1, e2, hm, hr2⟩ | ⟨b, d, e1, e2, hp⟩ | ⟨b, c2, d, e1, e2, e3, hp⟩
    · obtain ⟨b, d, h1, h2, h3⟩ := it_2 step N m2 a2 c2 (by omega) hr2
      exact ⟨b, d, by rw [tq_it, e1]; exact h1, by rw [tq_it, e2]; exact h2, h3⟩
    · exact ⟨b, d, by rw [tq_it, e1], by rw [tq_it, e2], hp⟩
    · refine ⟨b, d, by rw [tq_it, e1], ?_, hp⟩
      rw [tq_it, e2]
      cases N with
      | zero => omega
      | succ N => show tq_it g (N + 1) c2 = some d; rw [tq_it, e3]
theorem rg_30 : tq_rg 30 1 = 32 ∧ tq_rg 30 2 = 33 ∧ tq_rg 30 3 = 37 ∧ tq_rg 30 4 = 40 := by decide +kernel
section CS
variable {I J : tq_PI} {L : tq_PL} {B : Nat → Nat} {n p s w : Nat} {x : Nat × Int}
theorem c_full_cg (h33 : J 33 0 = I 33 0) (h37 : J 37 0 = I 37 0) (h40 : J 40 0 = I 40 0) (y : Int32) : FX7_isFull J L 30 y = FX7_isFull I L 30 y := by
  unfold FX7_isFull
  simp only [rg_30, h33, h37, h40]
theorem c_rl {d : Nat} (hs : s < 4) (hw : w ≤ 5) (C : CRd I B n p x) (h9 : I 30 9 = zI (d : Int)) : (okl B n p (nmn s w) ∧ ∃ J, FX7_readLine I L 30 (zI (s : Int)) (zI (w : Int)) = (FX7_tell J L 30 (zI (s : Int)) (zI (w : Int))).bind (fun r => some (true, r.1, r.2)) ∧ CRd J B n (tE B n (pp B n p (nmn s w))) (nf B n p s w (blm x (!FX7_isFull I L 30 (zI (s : Int))) 3 d) (nmn s w)) ∧ (∀ j, j < nmn s w → J 42 j = zI (tN B n (pp B n p j) : Nat)) ∧ FU2 I J) ∨ ∃ J q, FX7_readLine I L 30 (zI (s : Int)) (zI (w : Int)) = some (false, J, L) ∧ erl B n p (nmn s w) q ∧ J 30 9 = zI (q : Int) ∧ FU2 I J := by
  unfold FX7_readLine
  rw [zlet]
  cases ef : FX7_isFull I L 30 (zI (s : Int))
  · rw [if_pos (show tq_b false = 0 from rfl), show (!false) = true from rfl, blm_t]
    exact c_line17 hs hw C
  · obtain ⟨K, eK, CK, FK2, K9, -⟩ := c_blame (L := L) C 3 d (by omega)
    have eK' : FX7_blame I L 30 (3 : Int32) (zI (d : Int)) = K := eK
    rw [if_neg tb1, show (!true) = false from rfl, zlet, h9, eK']
    rcases c_line17 (L := L) hs hw CK with ⟨ok, J, e, c, v, F⟩ | ⟨J, q, e, er, j9, F⟩
    · exact Or.inl ⟨ok, J, e, c, v, FK2.tr F⟩
    · exact Or.inr ⟨J, q, e, er, j9, FK2.tr F⟩
theorem tk_let (h : tK B n p = 1) : ∀ i, tS B n p ≤ i → i < tE B n p → isL (B i) = true := by
  intro i h1 h2
  unfold tK at h
  by_cases q : n ≤ tS B n p
  · rw [if_pos q] at h; omega
  · rw [if_neg q] at h
    by_cases q1 : isL (B (tS B n p)) = true
    · unfold tE at h2
      rw [if_neg q, if_pos q1] at h2
      exact (ro_in (P := isL) (n := n) h1 h2).2
    · rw [if_neg q1] at h
      split at h
      · split at h <;> omega
      · split at h <;> omega
theorem tE_ge : tS B n p ≤ tE B n p := by
  by_cases h : tK B n p = 0
  · unfold tE
    split
    · omega
    · rename_i q
      unfold tK at h
      rw [if_neg q] at h
      split at h
      · omega
      · split at h
        · split at h <;> omega
        · split at h <;> omega
  · exact Nat.le_of_lt (tE_gt h)
theorem kwd_rg (k c : Nat) : -1 ≤ kwd k c ∧ kwd k c ≤ 5 := by
  unfold kwd
  repeat' (first | omega | split)
/-- the class's step of a text: the end, an error, or a line -/
theorem c_step {t : Nat} (hs : s < 4) (ht : t ≤ 600) (C : CRd I B n p x) : (tK B n p = 0 ∧ ∃ J, FX7_read_s43 I L 30 (zI (s : Int)) (zI (t : Int)) = some (.inr (.inl (J, L))) ∧ CRd J B n (tE B n p) x ∧ FU2 I J) ∨ (tK B n p ≠ 0 ∧ ((tK B n p ≠ 1 ∨ kwd s (tW B n p) = -1) ∧ ∃ J, FX7_read_s43 I L 30 (zI (s : Int)) (zI (t : Int)) = some (.inr (.inr (J, L))) ∧ J 30 11 = 1 ∧ J 30 12 = zI (tS B n p : Nat) ∧ FU2 I J)) ∨ (tK B n p = 1 ∧ ∃ w : Nat, kwd s (tW B n p) = w ∧ w ≤ 5 ∧ ((okl B n (tE B n p) (nmn s w) ∧ ∃ J, FX7_read_s43 I L 30 (zI (s : Int)) (zI (t : Int)) = (FX7_tell J L 30 (zI (s : Int)) (zI (w : Int))).bind (fun r => some (.inl (zI ((t + 1 : Nat) : Int), r.1, r.2))) ∧ CRd J B n (tE B n (pp B n (tE B n p) (nmn s w))) (nf B n (tE B n p) s w (blm x (!FX7_isFull I L 30 (zI (s : Int))) 3 (tS B n p)) (nmn s w)) ∧ (∀ j, j < nmn s w → J 42 j = zI (tN B n (pp B n (tE B n p) j) : Nat)) ∧ FU2 I J) ∨ ∃ J q, FX7_read_s43 I L 30 (zI (s : Int)) (zI (t : Int)) = some (.inr (.inr (J, L))) ∧ erl B n (tE B n p) (nmn s w) q ∧ J 30 11 = 1 ∧ J 30 12 = zI (q : Int) ∧ FU2 I J)) := by
  obtain ⟨J1, e1, F1, j8, j9, -⟩ := c_next (L := L) C.1 C.2.1 C.2.2.1
  have k4 := tK_le (B := B) (n := n) (p := p)
  have C1 := C.ft F1 (tE_le C.2.1) j8
  have bad : ∀ (K : tq_PI) (q : Nat), K 30 9 = zI (q : Int) → ∃ J, FX7_read_j98L43 K L (zI (s : Int)) 30 = some (.inr (.inr (J, L))) ∧ J 30 11 = 1 ∧ J 30 12 = zI (q : Int) ∧ FU2 K J := fun K q h => by
    unfold FX7_read_j98L43
    exact ⟨_, rfl, by rw [up_n _ _ (by omega), up_s], by rw [up_s, up_n _ _ (by omega)]; exact h, FU2.up.tr FU2.up⟩
  unfold FX7_read_s43
  rw [if_neg (by rw [zI_lit, zI_lt (by omega) (by omega)]; omega), e1, obind]
  by_cases g0 : tK B n p = 0
  · rw [if_pos (by show zI (tK B n p : Nat) = 0; rw [g0]; rfl)]
    exact Or.inl ⟨g0, J1, rfl, C1, F1.fu⟩
  · rw [if_neg (by show ¬ zI (tK B n p : Nat) = 0; rw [show (0 : Int32) = zI 0 from rfl, zI_eq (by omega) (by omega)]; omega)]
    refine Or.inr ?_
    by_cases g1 : tK B n p = 1
    · have ek := c_keyword (I := J1) (L := L) (k := s) C1.1 j8 j9 tE_ge (tE_le C.2.1) (tk_let g1) hs
      have ew : wcd (tE B n p - tS B n p) (vv B (tS B n p) (tE B n p - tS B n p)) = tW B n p := rfl
      rw [ew] at ek
      obtain ⟨k1, k2⟩ := kwd_rg s (tW B n p)
      rw [if_pos (by show zI (tK B n p : Nat) = 1; rw [g1]; rfl)]
      dsimp only
      rw [ek, obind]
      unfold FX7_read_j80L43
      by_cases g2 : kwd s (tW B n p) = -1
      · obtain ⟨J, e, a, b, F⟩ := bad J1 _ j9
        rw [if_pos (by rw [g2]; rfl), e]
        exact Or.inl ⟨g0, Or.inr g2, J, rfl, a, b, F1.fu.tr F⟩
      · obtain ⟨w, hw⟩ : ∃ w : Nat, kwd s (tW B n p) = w := ⟨(kwd s (tW B n p)).toNat, by omega⟩
        rw [if_neg (by rw [show (-1 : Int32) = zI (-1) from rfl, zI_eq (by omega) (by omega)]; exact g2), hw]
        refine Or.inr ⟨g1, w, rfl, by omega, ?_⟩
        have fc : FX7_isFull J1 L 30 (zI (s : Int)) = FX7_isFull I L 30 (zI (s : Int)) := c_full_cg (F1 _ _ (by omega)) (F1 _ _ (by omega)) (F1 _ _ (by omega)) _
        rcases c_rl (L := L) hs (show w ≤ 5 by omega) C1 j9 with ⟨ok, J, e, c, v, F⟩ | ⟨J, q, e, er, q9, F⟩
        · rw [fc] at c
          refine Or.inl ⟨ok, J, ?_, c, v, F1.fu.tr F⟩
          rw [e]
          cases FX7_tell J L 30 (zI (s : Int)) (zI (w : Int)) with
          | none => rfl
          | some r =>
            rw [obind, obind, obind]
            dsimp only
            rw [if_neg tb1, z_suc]
        · obtain ⟨J2, e2, a, b, F2⟩ := bad J q q9
          refine Or.inr ⟨J2, q, ?_, er, a, b, (F1.fu.tr F).tr F2⟩
          rw [e, obind]
          dsimp only
          rw [if_pos (show tq_b false = 0 from rfl), e2]
    · obtain ⟨J, e, a, b, F⟩ := bad J1 _ j9
      rw [if_neg (by show ¬ zI (tK B n p : Nat) = 1; rw [zI_lit, zI_eq (by omega) (by omega)]; omega)]
      unfold FX7_read_j80L43
      rw [if_pos rfl, e]
      exact Or.inl ⟨g0, Or.inl g1, J, rfl, a, b, F1.fu.tr F⟩
/-! one more of a sort -/
theorem i_any {y : Int32} {c : Nat} (hc : c < 100) (h1 : ¬ y < 0) (h2 : ¬ zI (c : Int) ≤ y) : ∃ m : Nat, m < c ∧ y = zI (m : Int) := by
  obtain ⟨z, hz, rfl⟩ := zI_of y
  rw [show (0 : Int32) = zI 0 from rfl, zI_lt (by omega) (by omega)] at h1
  rw [zI_le (by omega) (by omega)] at h2
  exact ⟨z.toNat, by omega, by congr 1; omega⟩
theorem rg_40 : tq_rg 40 1 = 41 ∧ tq_rg 37 1 = 38 ∧ tq_rg 37 2 = 39 ∧ tq_rg 33 1 = 34 ∧ tq_rg 33 2 = 35 ∧ tq_rg 33 3 = 36 := by decide +kernel
theorem c_add9 (v : Int32) : ∃ K, FX9_add J L 40 v = some K ∧ (∀ b, b ≠ 40 → b ≠ 41 → K b = J b) ∧ ∀ m : Nat, m < 8 → J 40 0 = zI (m : Int) → K 40 0 = zI ((m + 1 : Nat) : Int) ∧ K 41 m = v ∧ ∀ j, j ≠ m → K 41 j = J 41 j := by
  unfold FX9_add
  have no : ∀ m : Nat, m < 8 → ¬ zI (m : Int) < 0 ∧ ¬ (8 : Int32) ≤ zI (m : Int) := fun m hm => ⟨by rw [show (0 : Int32) = zI 0 from rfl, zI_lt (by omega) (by omega)]; omega, by rw [zI_lit, zI_le (by omega) (by omega)]; omega⟩
  by_cases g1 : J 40 0 < 0
  · rw [if_pos g1]
    exact ⟨J, rfl, fun _ _ _ => rfl, fun m hm e => absurd (e ▸ g1) (no m hm).1⟩
  · rw [if_neg g1]
    by_cases g2 : (8 : Int32) ≤ J 40 0
    · rw [if_pos g2]
      exact ⟨J, rfl, fun _ _ _ => rfl, fun m hm e => absurd (e ▸ g2) (no m hm).2⟩
    · rw [if_neg g2]
      obtain ⟨k, hk, ek⟩ := i_any (c := 8) (by omega) g1 g2
      have en : (zI (k : Int)).toNatClampNeg = k := by rw [zI_cl (by omega), Int.toNat_natCast]
      rw [if_pos (by rw [ek]; exact ⟨by rw [show (0 : Int32) = zI 0 from rfl, zI_le (by omega) (by omega)]; omega, by rw [zI_lit, zI_lt (by omega) (by omega)]; omega⟩), rg_40.1, ek, en, up_n _ _ (by omega), ek, z_suc]
      refine ⟨_, rfl, fun b h1 h2 => by rw [up_row h1, up_row h2], fun m hm e => ?_⟩
      have : k = m := by rw [zI_eq (by omega) (by omega)] at e; omega
      subst this
      exact ⟨by rw [up_s], by rw [up_n _ _ (by omega), up_s], fun j hj => by rw [up_n _ _ (by omega), up_n _ _ (by omega)]⟩
theorem c_add4 (c v : Int32) : ∃ K, FX4_add J L 37 c v = some K ∧ (∀ b, b ≠ 37 → b ≠ 38 → b ≠ 39 → K b = J b) ∧ ∀ m : Nat, m < 8 → J 37 0 = zI (m : Int) → K 37 0 = zI ((m + 1 : Nat) : Int) ∧ (K 38 m = c ∧ ∀ j, j ≠ m → K 38 j = J 38 j) ∧ K 39 m = v ∧ ∀ j, j ≠ m → K 39 j = J 39 j := by
  unfold FX4_add
  have no : ∀ m : Nat, m < 8 → ¬ zI (m : Int) < 0 ∧ ¬ (8 : Int32) ≤ zI (m : Int) := fun m hm => ⟨by rw [show (0 : Int32) = zI 0 from rfl, zI_lt (by omega) (by omega)]; omega, by rw [zI_lit, zI_le (by omega) (by omega)]; omega⟩
  by_cases g1 : J 37 0 < 0
  · rw [if_pos g1]
    exact ⟨J, rfl, fun _ _ _ _ => rfl, fun m hm e => absurd (e ▸ g1) (no m hm).1⟩
  · rw [if_neg g1]
    by_cases g2 : (8 : Int32) ≤ J 37 0
    · rw [if_pos g2]
      exact ⟨J, rfl, fun _ _ _ _ => rfl, fun m hm e => absurd (e ▸ g2) (no m hm).2⟩
    · rw [if_neg g2]
      obtain ⟨k, hk, ek⟩ := i_any (c := 8) (by omega) g1 g2
      have en : (zI (k : Int)).toNatClampNeg = k := by rw [zI_cl (by omega), Int.toNat_natCast]
      have ic : (0 : Int32) ≤ zI (k : Int) ∧ zI (k : Int) < 8 := ⟨by rw [show (0 : Int32) = zI 0 from rfl, zI_le (by omega) (by omega)]; omega, by rw [zI_lit, zI_lt (by omega) (by omega)]; omega⟩
      have t1 : (tq_up2 J 38 k c) 37 0 = zI (k : Int) := by rw [up_n _ _ (by omega)]; exact ek
      have t2 : (tq_up2 (tq_up2 J 38 k c) 39 k v) 37 0 = zI (k : Int) := by rw [up_n _ _ (by omega)]; exact t1
      rw [rg_40.2.1, rg_40.2.2.1, if_pos (by rw [ek]; exact ic), ek, en, if_pos (by rw [t1]; exact ic), t1, en, t2, z_suc]
      refine ⟨_, rfl, fun b h1 h2 h3 => by rw [up_row h1, up_row h3, up_row h2], fun m hm e => ?_⟩
      have : k = m := by rw [zI_eq (by omega) (by omega)] at e; omega
      subst this
      exact ⟨by rw [up_s], ⟨by rw [up_n _ _ (by omega), up_n _ _ (by omega), up_s], fun j hj => by rw [up_n _ _ (by omega), up_n _ _ (by omega), up_n _ _ (by omega)]⟩, by rw [up_n _ _ (by omega), up_s], fun j hj => by rw [up_n _ _ (by omega), up_n _ _ (by omega), up_n _ _ (by omega)]⟩
theorem c_add10 (a b c : Int32) : ∃ K, FX10_add J L 33 a b c = some K ∧ (∀ d, d ≠ 33 → d ≠ 34 → d ≠ 35 → d ≠ 36 → K d = J d) ∧ ∀ m : Nat, m < 40 → J 33 0 = zI (m : Int) → K 33 0 = zI ((m + 1 : Nat) : Int) ∧ (K 34 m = a ∧ ∀ j, j ≠ m → K 34 j = J 34 j) ∧ (K 35 m = b ∧ ∀ j, j ≠ m → K 35 j = J 35 j) ∧ K 36 m = c ∧ ∀ j, j ≠ m → K 36 j = J 36 j := by
  unfold FX10_add
  have no : ∀ m : Nat, m < 40 → ¬ zI (m : Int) < 0 ∧ ¬ (40 : Int32) ≤ zI (m : Int) := fun m hm => ⟨by rw [show (0 : Int32) = zI 0 from rfl, zI_lt (by omega) (by omega)]; omega, by rw [zI_lit, zI_le (by omega) (by omega)]; omega⟩
  by_cases g1 : J 33 0 < 0
  · rw [if_pos g1]
    exact ⟨J, rfl, fun _ _ _ _ _ => rfl, fun m hm e => absurd (e ▸ g1) (no m hm).1⟩
  · rw [if_neg g1]
    by_cases g2 : (40 : Int32) ≤ J 33 0
    · rw [if_pos g2]
      exact ⟨J, rfl, fun _ _ _ _ _ => rfl, fun m hm e => absurd (e ▸ g2) (no m hm).2⟩
    · rw [if_neg g2]
      obtain ⟨k, hk, ek⟩ := i_any (c := 40) (by omega) g1 g2
      have en : (zI (k : Int)).toNatClampNeg = k := by rw [zI_cl (by omega), Int.toNat_natCast]
      have ic : (0 : Int32) ≤ zI (k : Int) ∧ zI (k : Int) < 40 := ⟨by rw [show (0 : Int32) = zI 0 from rfl, zI_le (by omega) (by omega)]; omega, by rw [zI_lit, zI_lt (by omega) (by omega)]; omega⟩
      have t1 : (tq_up2 J 34 k a) 33 0 = zI (k : Int) := by rw [up_n _ _ (by omega)]; exact ek
      have t2 : (tq_up2 (tq_up2 J 34 k a) 35 k b) 33 0 = zI (k : Int) := by rw [up_n _ _ (by omega)]; exact t1
      have t3 : (tq_up2 (tq_up2 (tq_up2 J 34 k a) 35 k b) 36 k c) 33 0 = zI (k : Int) := by rw [up_n _ _ (by omega)]; exact t2
      rw [rg_40.2.2.2.1, rg_40.2.2.2.2.1, rg_40.2.2.2.2.2, if_pos (by rw [ek]; exact ic), ek, en, if_pos (by rw [t1]; exact ic), t1, en, if_pos (by rw [t2]; exact ic), t2, en, t3, z_suc]
      refine ⟨_, rfl, fun d h1 h2 h3 h4 => by rw [up_row h1, up_row h4, up_row h3, up_row h2], fun m hm e => ?_⟩
      have : k = m := by rw [zI_eq (by omega) (by omega)] at e; omega
      subst this
      exact ⟨by rw [up_s], ⟨by rw [up_n _ _ (by omega), up_n _ _ (by omega), up_n _ _ (by omega), up_s], fun j hj => by rw [up_n _ _ (by omega), up_n _ _ (by omega), up_n _ _ (by omega), up_n _ _ (by omega)]⟩, ⟨by rw [up_n _ _ (by omega), up_n _ _ (by omega), up_s], fun j hj => by rw [up_n _ _ (by omega), up_n _ _ (by omega), up_n _ _ (by omega), up_n _ _ (by omega)]⟩, by rw [up_n _ _ (by omega), up_s], fun j hj => by rw [up_n _ _ (by omega), up_n _ _ (by omega), up_n _ _ (by omega), up_n _ _ (by omega)]⟩
end CS
