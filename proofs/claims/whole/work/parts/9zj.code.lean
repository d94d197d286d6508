/-! TALKS, CODE: the reference's loops; the query talk. -/
section TC
variable {J : tq_PI} {M : tq_PL} {o m : Nat} {tw : Nat → Nat}
theorem i256 {s : Nat} (h : s < 256) : (0 : Int32) ≤ zI (s : Int) ∧ zI (s : Int) < 256 := ⟨by rw [show (0 : Int32) = zI 0 from rfl, zI_le (by omega) (by omega)]; omega, by rw [show (256 : Int32) = zI 256 from rfl, zI_lt (by omega) (by omega)]; omega⟩
theorem r_oft (h35 : J 136 35 = zI (o : Int)) (ho : o + 9 ≤ 4016) (hw : ∀ k, k < m → tw k ≤ 99 ∧ J 137 (o + 1 + k) = zI (tw k : Nat)) (m8 : m ≤ 8) {s : Nat} (hs : s < 256) : tq_it (fun p : Int32 × tq_PI => FX12_codeOf_s53 p.2 M 136 (zI (m : Int)) (zI (s : Int)) p.1) tq_N ((0 : Int32), tq_up2 J 152 s (0 : Int32)) = some (tq_up2 J 152 s (zI (kw m (tz m tw) s : Nat))) := by
  obtain ⟨b, e, rfl⟩ := it_for (f := fun p : Int32 × tq_PI => FX12_codeOf_s53 p.2 M 136 (zI (m : Int)) (zI (s : Int)) p.1) (fun k (_ : Unit) => (zI (k : Int), tq_up2 J 152 s (zI (sm (fun x => tz m tw x * kn x s) k : Nat)))) m (fun _ _ => True) (Post := fun b => b = tq_up2 J 152 s (zI (kw m (tz m tw) s : Nat))) (fun k _ hk _ => by
    obtain ⟨w1, w2⟩ := hw k hk
    have es : sm (fun x => tz m tw x * kn x s) (k + 1) = sm (fun x => tz m tw x * kn x s) k + tz m tw k * kn k s := rfl
    have et : tz m tw k = tw k := by unfold tz; rw [if_pos hk]
    refine Or.inl ⟨(), ?_, trivial⟩
    dsimp only
    rw [es]
    generalize sm (fun x => tz m tw x * kn x s) k = X at *
    unfold FX12_codeOf_s53 FX12_codeOf_j91L53
    have r1 : (tq_up2 J 152 s (zI (X : Int))) 136 35 = zI (o : Int) := by rw [up_n _ _ (Or.inl (by omega))]; exact h35
    have r2 : (tq_up2 J 152 s (zI (X : Int))) 137 (o + 1 + k) = zI (tw k : Nat) := by rw [up_n _ _ (Or.inl (by omega))]; exact w2
    rw [if_neg (by rw [zI_le (by omega) (by omega)]; omega), if_pos (i256 hs), r1, show (1 : Int32) = zI 1 from rfl, zI_add, zI_add, g0, g36, zI_add]
    have en : ((o : Int) + 1 + (k : Int)).toNat = o + 1 + k := by omega
    rw [zI_cl (by omega), zI_cl (by omega), en, Int.toNat_natCast, r2, up_s, up_up, up_up, zI_add]
    have kz : kn k s = if s.testBit k then 1 else 0 := rfl
    have sq : (zI (s : Int) >>> (zI (k : Int) &&& 31) &&& zI 1 = zI 1) ↔ s.testBit k = true := sh1 s hs k (by omega)
    by_cases q : s.testBit k = true
    · rw [if_pos (sq.2 q), if_pos ⟨by rw [show (0 : Int32) = zI 0 from rfl, zI_le (by omega) (by omega)]; omega, by rw [show (4016 : Int32) = zI 4016 from rfl, zI_lt (by omega) (by omega)]; omega⟩, if_pos (i256 hs), kz, if_pos q, et, Nat.mul_one, Int.natCast_add, Int.natCast_add]
      rfl
    · rw [if_neg (fun g => q (sq.1 g)), if_pos (i256 hs), kz, if_neg q, Nat.mul_zero, Nat.add_zero, Int.natCast_add, show (0 : Int32) = zI 0 from rfl, zI_add, Int.add_zero]
      rfl) (fun _ _ => ⟨_, by
    unfold FX12_codeOf_s53
    dsimp only
    rw [if_pos (by rw [zI_le (by omega) (by omega)]; omega)]
    rfl, rfl⟩) 0 () (by omega) (by omega) trivial
  exact e
theorem r_min {f T : Nat → Nat} {s v0 : Nat} (a1 : Int32) (hs : s < 256) (s0 : s ≠ 0) (hw : ∀ t, t < s → t ≠ 0 → J 152 t = zI (kw m f t : Nat) ∧ J 153 t = zI (T t : Nat)) (hb : ∀ t, t < s → t ≠ 0 → T t ≤ 12800 ∧ kw m f t ≤ 792) (hv : v0 ≤ 268435456) (hv2 : s &&& (s - 1) = 0 ∨ 30000 ≤ v0) : ∃ v, tq_it (fun p : Int32 × tq_PI => FX12_codeOf_s126 p.2 M 136 a1 (zI (s : Int)) p.1) tq_N (zI (((s - 1) &&& s : Nat) : Int), tq_up2 J 153 s (zI (v0 : Int))) = some (tq_up2 J 153 s (zI (v : Nat))) ∧ (s &&& (s - 1) = 0 → v = v0) ∧ (∀ t, t &&& s = t → t ≠ 0 → t < s → v ≤ kct m f T s t) ∧ (s &&& (s - 1) ≠ 0 → ∃ t, t &&& s = t ∧ t ≠ 0 ∧ t < s ∧ v = kct m f T s t) := by
  have nx : ∀ t, t &&& s = t → t < s → t ≤ (s - 1) &&& s := fun t h1 h2 => and_nx s s t h2 h1 (Nat.and_self s)
  have pl0 : (s - 1) &&& s < s := Nat.lt_of_le_of_lt Nat.and_le_left (by omega)
  obtain ⟨b, e, v, rfl, h1, h2, h3⟩ := it_w (f := fun p : Int32 × tq_PI => FX12_codeOf_s126 p.2 M 136 a1 (zI (s : Int)) p.1) (fun a => ∃ p v : Nat, a = (zI (p : Int), tq_up2 J 153 s (zI (v : Int))) ∧ p &&& s = p ∧ p < s ∧ v ≤ 268435456 ∧ (∀ t, t &&& s = t → p < t → t < s → v ≤ kct m f T s t) ∧ ((v = v0 ∧ p = (s - 1) &&& s) ∨ ∃ t, t &&& s = t ∧ t ≠ 0 ∧ t < s ∧ v = kct m f T s t)) (fun a => a.1.toNatClampNeg) (Post := fun b => ∃ v : Nat, b = tq_up2 J 153 s (zI (v : Int)) ∧ (s &&& (s - 1) = 0 → v = v0) ∧ (∀ t, t &&& s = t → t ≠ 0 → t < s → v ≤ kct m f T s t) ∧ (s &&& (s - 1) ≠ 0 → ∃ t, t &&& s = t ∧ t ≠ 0 ∧ t < s ∧ v = kct m f T s t)) (fun a ha => by
    obtain ⟨p, v, rfl, p1, p2, p3, p4, p5⟩ := ha
    dsimp only
    by_cases q : p = 0
    · subst q
      refine Or.inr ⟨_, ?_, v, rfl, fun g => ?_, fun t t1 t2 t3 => p4 t t1 (by omega) t3, fun g => ?_⟩
      · unfold FX12_codeOf_s126
        rw [if_pos (by decide)]
      · rcases p5 with ⟨h, -⟩ | ⟨t, t1, t2, t3, t4⟩
        · exact h
        · have := nx t t1 t3
          rw [Nat.and_comm] at this
          omega
      · rcases p5 with ⟨-, h⟩ | h
        · rw [Nat.and_comm] at h
          omega
        · exact h
    · obtain ⟨r1, r2, r3, r4⟩ := prt p1 q p2
      obtain ⟨w1, w2⟩ := hw p p2 q
      obtain ⟨w3, w4⟩ := hw (s ^^^ p) r2 r1
      obtain ⟨b1, b2⟩ := hb p p2 q
      obtain ⟨b3, b4⟩ := hb (s ^^^ p) r2 r1
      have ec : kct m f T s p = T p + T (s ^^^ p) + kw m f p + 2 * kw m f (s ^^^ p) := rfl
      have en : zI (p : Int) - (1 : Int32) = zI ((p - 1 : Nat) : Int) := by
        rw [show (1 : Int32) = zI 1 from rfl, zI_sub]
        congr 1
        omega
      have lt : (p - 1) &&& s < p := Nat.lt_of_le_of_lt Nat.and_le_left (by omega)
      have st : FX12_codeOf_s126 (tq_up2 J 153 s (zI (v : Int))) M 136 a1 (zI (s : Int)) (zI (p : Int)) = some (.inl (zI (((p - 1) &&& s : Nat) : Int), tq_up2 J 153 s (zI (if v ≤ kct m f T s p then v else kct m f T s p : Nat)))) := by
        unfold FX12_codeOf_s126 FX12_codeOf_j192L126
        rw [if_neg (by rw [show (0 : Int32) = zI 0 from rfl, zI_le (by omega) (by omega)]; omega), zI_xor, if_pos (i256 (by omega)), if_pos (i256 (by omega)), if_pos (i256 (by omega)), if_pos (i256 (by omega)), if_pos (i256 hs), g36, g37, zI_cl (by omega), zI_cl (by omega), zI_cl (by omega), Int.toNat_natCast, Int.toNat_natCast, Int.toNat_natCast, up_s, up_n _ _ (Or.inr (by omega)), up_n _ _ (Or.inr (by omega)), up_n _ _ (Or.inl (by omega)), up_n _ _ (Or.inl (by omega)), w1, w2, w3, w4, show (2 : Int32) = zI 2 from rfl, zI_mul, zI_add, zI_add, zI_add, en, zI_and, if_pos (i256 hs), if_pos (i256 hs), if_pos (i256 hs), up_up, up_up]
        by_cases g : v ≤ kct m f T s p
        · rw [if_pos g, if_pos (by rw [zI_le (by omega) (by omega)]; omega)]
        · rw [if_neg g, if_neg (by rw [zI_le (by omega) (by omega)]; omega), ec]
          congr 5
      refine Or.inl ⟨_, st, ?_, (p - 1) &&& s, (if v ≤ kct m f T s p then v else kct m f T s p), rfl, ?_, by omega, ?_, fun t t1 t2 t3 => ?_, ?_⟩
      · dsimp only
        rw [zI_cl (by omega), zI_cl (by omega), Int.toNat_natCast, Int.toNat_natCast]
        exact lt
      · rw [Nat.and_assoc, Nat.and_self]
      · split <;> omega
      · by_cases g : p < t
        · have := p4 t t1 g t3
          split <;> omega
        · by_cases g2 : t = p
          · subst g2
            split <;> omega
          · have := and_nx p s t (by omega) t1 p1
            omega
      · by_cases g : v ≤ kct m f T s p
        · rw [if_pos g]
          rcases p5 with ⟨h, h2⟩ | h
          · rcases hv2 with g3 | g3
            · rw [Nat.and_comm] at g3
              omega
            · omega
          · exact Or.inr h
        · rw [if_neg g]
          exact Or.inr ⟨p, p1, q, p2, rfl⟩) (zI (((s - 1) &&& s : Nat) : Int), tq_up2 J 153 s (zI (v0 : Int))) (by dsimp only; rw [zI_cl (by omega), Int.toNat_natCast]; omega) ⟨(s - 1) &&& s, v0, rfl, by rw [Nat.and_assoc, Nat.and_self], pl0, hv, fun t t1 t2 t3 => by have := nx t t1 t3; omega, Or.inl ⟨rfl, rfl⟩⟩
  exact ⟨v, e, h1, h2, h3⟩
theorem r_min0 (a1 : Int32) (J : tq_PI) : tq_it (fun p : Int32 × tq_PI => FX12_codeOf_s126 p.2 M 136 a1 (zI ((0 : Nat) : Int)) p.1) tq_N ((0 : Int32), J) = some J := by
  obtain ⟨b, e, rfl⟩ := it_w (f := fun p : Int32 × tq_PI => FX12_codeOf_s126 p.2 M 136 a1 (zI ((0 : Nat) : Int)) p.1) (fun a => a = ((0 : Int32), J)) (fun _ => 0) (Post := fun b => b = J) (fun a ha => by
    subst ha
    refine Or.inr ⟨J, ?_, rfl⟩
    unfold FX12_codeOf_s126
    dsimp only
    rw [if_pos (by decide)]) ((0 : Int32), J) (by omega) rfl
  exact e
def FVq (I J : tq_PI) : Prop := ∀ a, a ≠ 152 → a ≠ 153 → J a = I a
theorem r_step {J0 : tq_PI} {f T : Nat → Nat} (h35 : J0 136 35 = zI (o : Int)) (ho : o + 9 ≤ 4016) (hw : ∀ k, k < m → tw k ≤ 99 ∧ J0 137 (o + 1 + k) = zI (tw k : Nat)) (m8 : m ≤ 8) (ef : f = tz m tw) (hf : ∀ x, f x ≤ 99) {s : Nat} (hs : s < 2 ^ m) (F : FVq J0 J) (G : ∀ t, t < s → t ≠ 0 → J 152 t = zI (kw m f t : Nat) ∧ J 153 t = zI (T t : Nat)) (K : KS m f T s) : ∃ J2 T2, FX12_codeOf_s37 J M 136 (zI (m : Int)) (zI (s : Int)) = some (.inl (zI ((s + 1 : Nat) : Int), J2)) ∧ FVq J0 J2 ∧ (∀ t, t < s + 1 → t ≠ 0 → J2 152 t = zI (kw m f t : Nat) ∧ J2 153 t = zI (T2 t : Nat)) ∧ KS m f T2 (s + 1) := by
  have s256 : s < 256 := Nat.lt_of_lt_of_le hs (Nat.pow_le_pow_right (by omega) m8 : 2 ^ m ≤ 2 ^ 8)
  have p256 : 2 ^ m ≤ 256 := (Nat.pow_le_pow_right (by omega) m8 : 2 ^ m ≤ 2 ^ 8)
  have e1 := r_oft (J := J) (M := M) (m := m) (tw := tw) (o := o) (by rw [F 136 (by omega) (by omega)]; exact h35) ho (fun k hk => by rw [F 137 (by omega) (by omega)]; exact hw k hk) m8 s256
  rw [← ef] at e1
  have kb : ∀ t, t < s → t ≠ 0 → T t ≤ 12800 ∧ kw m f t ≤ 792 := fun t h1 h2 => by
    have b1 := K.2.2.2 t h1 ⟨by omega, h2⟩
    have b2 := kl_le m t
    have b3 := kw_le (n := m) hf t
    omega
  obtain ⟨N, hN⟩ : ∃ N, N = 2 ^ m := ⟨_, rfl⟩
  have en : (zI (s : Int)).toNatClampNeg = s := by rw [zI_cl (by omega), Int.toNat_natCast]
  have e9 : zI (s : Int) + 1 = zI ((s + 1 : Nat) : Int) := by rw [zI_lit, zI_add]; rfl
  unfold FX12_codeOf_s37 FX12_codeOf_j119L37
  rw [sh2 m (by omega), ← hN, if_neg (by rw [zI_le (by omega) (by omega)]; omega), if_pos (i256 s256), g36, g37, en, e1, obind, if_pos (i256 s256), e9]
  by_cases q : s = 0
  · subst q
    refine ⟨tq_up2 (tq_up2 J 152 0 (zI (kw m f 0 : Nat))) 153 0 (0 : Int32), T, ?_, fun a h1 h2 => ?_, fun t h1 h2 => by omega, ?_⟩
    · have e2 := r_min0 (M := M) (zI (m : Int)) (tq_up2 (tq_up2 J 152 0 (zI (kw m f 0 : Nat))) 153 0 (0 : Int32))
      rw [if_pos (by decide), show ((zI ((0 : Nat) : Int) - 1) &&& zI ((0 : Nat) : Int)) = (0 : Int32) by decide, e2, obind]
    · rw [up_row h2, up_row h1]; exact F a h1 h2
    · obtain ⟨k1, k2, k3, k4⟩ := K
      refine ⟨fun x _ h => ?_, fun a b va vb _ h => ?_, fun t h v => absurd v.2 (by omega), fun t h v => absurd v.2 (by omega)⟩
      · have := Nat.two_pow_pos x
        omega
      · have : a ≤ a ||| b := Nat.left_le_or
        have := va.2
        omega
  · have en1 : zI (s : Int) - (1 : Int32) = zI ((s - 1 : Nat) : Int) := by
      rw [show (1 : Int32) = zI 1 from rfl, zI_sub]
      congr 1
      omega
    have al : s &&& (s - 1) ≤ s := Nat.and_le_left
    have ez : (zI (s : Int) &&& (zI (s : Int) - (1 : Int32)) = 0) = (s &&& (s - 1) = 0) := by
      rw [en1, zI_and, show (0 : Int32) = zI 0 from rfl, zI_eq (by omega) (by omega)]
      apply propext
      omega
    have hw2 : ∀ t, t < s → t ≠ 0 → (tq_up2 J 152 s (zI (kw m f s : Nat))) 152 t = zI (kw m f t : Nat) ∧ (tq_up2 J 152 s (zI (kw m f s : Nat))) 153 t = zI (T t : Nat) := fun t h1 h2 => by
      rw [up_n _ _ (by omega), up_n _ _ (by omega)]
      exact G t h1 h2
    have go : ∀ v0 : Nat, v0 ≤ 268435456 → (s &&& (s - 1) = 0 ∨ 30000 ≤ v0) → (s &&& (s - 1) = 0 → v0 = 0) → ∃ J2 T2, (tq_it (fun p : Int32 × tq_PI => FX12_codeOf_s126 p.2 M 136 (zI (m : Int)) (zI (s : Int)) p.1) tq_N (((zI (s : Int) - (1 : Int32)) &&& zI (s : Int)), (tq_up2 (tq_up2 J 152 s (zI (kw m f s : Nat))) 153 s (zI (v0 : Int))))) = some J2 ∧ FVq J0 J2 ∧ (∀ t, t < s + 1 → t ≠ 0 → J2 152 t = zI (kw m f t : Nat) ∧ J2 153 t = zI (T2 t : Nat)) ∧ KS m f T2 (s + 1) := fun v0 g1 g2 g3 => by
      obtain ⟨v, e2, h1, h2, h3⟩ := r_min (J := tq_up2 J 152 s (zI (kw m f s : Nat))) (M := M) (m := m) (zI (m : Int)) s256 q hw2 kb g1 g2
      refine ⟨tq_up2 (tq_up2 J 152 s (zI (kw m f s : Nat))) 153 s (zI (v : Int)), fun t => if t = s then v else T t, ?_, fun a c1 c2 => ?_, fun t c1 c2 => ?_, KS_up K hf m8 hs (fun g => (h1 g).trans (g3 g)) h2 h3⟩
      · rw [en1, zI_and]; exact e2
      · rw [up_row c2, up_row c1]; exact F a c1 c2
      · dsimp only
        by_cases g : t = s
        · subst g
          rw [if_pos rfl, up_s, up_n _ _ (by omega), up_s]
          exact ⟨rfl, rfl⟩
        · rw [if_neg g, up_n _ _ (by omega), up_n _ _ (by omega), up_n _ _ (by omega), up_n _ _ (by omega)]
          exact G t (by omega) c2
    by_cases g : s &&& (s - 1) = 0
    · obtain ⟨J2, T2, c1, c2, c3, c4⟩ := go 0 (by omega) (Or.inl g) (fun _ => rfl)
      refine ⟨J2, T2, ?_, c2, c3, c4⟩
      rw [if_pos (by rw [ez]; exact g)]
      exact (congrArg (fun o => Option.bind o _) c1).trans (obind _ _)
    · obtain ⟨J2, T2, c1, c2, c3, c4⟩ := go 268435456 (by omega) (Or.inr (by omega)) (fun h => absurd h g)
      refine ⟨J2, T2, ?_, c2, c3, c4⟩
      rw [if_neg (by rw [ez]; exact g), if_pos (i256 s256), show (268435456 : Int32) = zI ((268435456 : Nat) : Int) from rfl]
      exact (congrArg (fun o => Option.bind o _) c1).trans (obind _ _)
theorem r_code (h35 : J 136 35 = zI (o : Int)) (ho : o + 9 ≤ 4016) (h0 : J 137 o = zI (m : Int)) (hw : ∀ k, k < m → tw k ≤ 99 ∧ J 137 (o + 1 + k) = zI (tw k : Nat)) (m8 : m ≤ 8) : ∃ (v : Nat) (J2 : tq_PI), FX12_codeOf J M 136 = some (zI (v : Int), J2) ∧ FVq J J2 ∧ (m = 0 → v = 0) ∧ (m = 1 → v = tw 0) ∧ (2 ≤ m → ∃ T, KT m (tz m tw) T ∧ v = T (2 ^ m - 1)) := by
  have c1 : (0 : Int32) ≤ zI (o : Int) ∧ zI (o : Int) < 4016 := ⟨by rw [show (0 : Int32) = zI 0 from rfl, zI_le (by omega) (by omega)]; omega, by rw [show (4016 : Int32) = zI 4016 from rfl, zI_lt (by omega) (by omega)]; omega⟩
  have c2 : (0 : Int32) ≤ zI (o : Int) + 1 ∧ zI (o : Int) + 1 < 4016 := by
    rw [show (1 : Int32) = zI 1 from rfl, zI_add]
    exact ⟨by rw [show (0 : Int32) = zI 0 from rfl, zI_le (by omega) (by omega)]; omega, by rw [show (4016 : Int32) = zI 4016 from rfl, zI_lt (by omega) (by omega)]; omega⟩
  have en : (zI (o : Int)).toNatClampNeg = o := by rw [zI_cl (by omega), Int.toNat_natCast]
  unfold FX12_codeOf
  rw [h35, if_pos c1, g0, g37, en, h0]
  by_cases q : 2 ≤ m
  · have hf : ∀ x, tz m tw x ≤ 99 := fun x => by
      unfold tz
      split
      · exact (hw x (by assumption)).1
      · omega
    obtain ⟨N, hN⟩ : ∃ N, N = 2 ^ m := ⟨_, rfl⟩
    have p256 : 2 ^ m ≤ 256 := (Nat.pow_le_pow_right (by omega) m8 : 2 ^ m ≤ 2 ^ 8)
    have ppos : 0 < 2 ^ m := Nat.two_pow_pos m
    have p4 : 4 ≤ 2 ^ m := (Nat.pow_le_pow_right (by omega) q : 2 ^ 2 ≤ 2 ^ m)
    obtain ⟨J2, e, T, F, G, K⟩ := it_for (f := fun p : Int32 × tq_PI => FX12_codeOf_s37 p.2 M 136 (zI (m : Int)) p.1) (fun k (s : tq_PI) => (zI (k : Int), s)) N (fun s J2 => ∃ T, FVq J J2 ∧ (∀ t, t < s → t ≠ 0 → J2 152 t = zI (kw m (tz m tw) t : Nat) ∧ J2 153 t = zI (T t : Nat)) ∧ KS m (tz m tw) T s) (Post := fun J2 => ∃ T, FVq J J2 ∧ (∀ t, t < N → t ≠ 0 → J2 152 t = zI (kw m (tz m tw) t : Nat) ∧ J2 153 t = zI (T t : Nat)) ∧ KS m (tz m tw) T N) (fun s J2 hs hJ => by
      obtain ⟨T, F, G, K⟩ := hJ
      obtain ⟨J3, T3, d1, d2, d3, d4⟩ := r_step (M := M) h35 ho hw m8 rfl hf (by omega) F G K
      exact Or.inl ⟨J3, d1, T3, d2, d3, d4⟩) (fun J2 hJ => ⟨J2, by
      unfold FX12_codeOf_s37
      dsimp only
      rw [sh2 m (by omega), ← hN, if_pos (by rw [zI_le (by omega) (by omega)]; omega)], hJ⟩) 0 J (by omega) (by omega) ⟨fun _ => 0, fun _ _ _ => rfl, fun t h => absurd h (Nat.not_lt_zero _), fun x _ h => absurd h (Nat.not_lt_zero _), fun a b _ _ _ h => absurd h (Nat.not_lt_zero _), fun t h => absurd h (Nat.not_lt_zero _), fun t h => absurd h (Nat.not_lt_zero _)⟩
    have e' : tq_it (fun p : Int32 × tq_PI => FX12_codeOf_s37 p.2 M 136 (zI (m : Int)) p.1) tq_N ((0 : Int32), J) = some J2 := e
    rw [hN] at K
    refine ⟨T (2 ^ m - 1), J2, ?_, F, by omega, by omega, fun _ => ⟨T, KS_KT K, rfl⟩⟩
    have ei : ((1 : Int32) <<< (zI (m : Int) &&& 31)) - (1 : Int32) = zI ((2 ^ m - 1 : Nat) : Int) := by
      rw [sh2 m (by omega), show (1 : Int32) = zI 1 from rfl, zI_sub]
      congr 1
      omega
    rw [if_pos (by rw [zI_lit, zI_le (by omega) (by omega)]; omega), e', obind, ei, if_pos (i256 (by omega)), zI_cl (by omega), Int.toNat_natCast, (G (2 ^ m - 1) (by omega) (by omega)).2]
  · rw [if_neg (by rw [zI_lit, zI_le (by omega) (by omega)]; omega)]
    by_cases q0 : m = 0
    · subst q0
      rw [if_pos (by decide)]
      exact ⟨0, J, rfl, fun _ _ _ => rfl, fun _ => rfl, by omega, by omega⟩
    · have m1 : m = 1 := by omega
      subst m1
      have e1 : (zI (o : Int) + (1 : Int32)).toNatClampNeg = o + 1 := by
        rw [show (1 : Int32) = zI 1 from rfl, zI_add, zI_cl (by omega)]
        omega
      rw [if_neg (by decide), if_pos c2, e1]
      have w := (hw 0 (by omega)).2
      rw [Nat.add_zero] at w
      rw [w]
      exact ⟨tw 0, J, rfl, fun _ _ _ => rfl, by omega, fun _ => rfl, by omega⟩
end TC
theorem rg_0_8 : tq_rg 0 8 = 52 := by decide +kernel
theorem q_talk {I : tq_PI} {L : tq_PL} (Y : TV I 1 0) (y u : Int32) : ∃ v I2, FX11_talk I L 0 y u = some (v, I2) ∧ FP I I2 ∧ ∀ J M, J 137 = I 137 → ∃ J2, FX12_talk J M 136 y u = some (v, J2) ∧ FP J J2 := by
  by_cases hu : u = -2
  · subst hu
    rcases talk_case Y y with q | ⟨j, n, tw, hj, rfl, ey, D, ry⟩
    · exact ⟨-1, I, by unfold FX11_talk; rw [rg_0_0, (q L).1, obind]; rfl, FP.rf, fun J M hJ => ⟨J, by unfold FX12_talk; rw [(q L).2 J M hJ, obind]; rfl, FP.rf⟩⟩
    · have hn := D.1
      obtain ⟨v, I2, e, P, v0, v1, v2⟩ := c_code (L := L) hj D
      refine ⟨zI (v : Int), I2, ?_, P, fun J M hJ => ?_⟩
      · unfold FX11_talk
        rw [rg_0_0, ey L, obind, oel_s, if_neg (by decide), if_pos rfl, rg_0_8, e, obind]
      · have e37 : (tq_up2 J 136 35 (zI ((986 + 9 * j : Nat) : Int))) 137 = I 137 := by rw [up_row (by omega), hJ]
        obtain ⟨x, J2, eR, FR, x0, x1, x2⟩ := r_code (J := tq_up2 J 136 35 (zI ((986 + 9 * j : Nat) : Int))) (M := M) (o := 986 + 9 * j) (m := n) (tw := tw) (up_s _ _ _ _) (by omega) (by rw [e37]; exact D.2.2.1) (fun k hk => by
          rw [e37]
          exact ⟨(D.2.2.2 k hk).1, (D.2.2.2 k hk).2.2⟩) hn
        obtain ⟨r1, r2⟩ := ry J M hJ
        have ev : v = x := by
          rcases (by omega : n = 0 ∨ n = 1 ∨ 2 ≤ n) with h | h | h
          · rw [v0 h, x0 h]
          · rw [v1 h, x1 h]
          · obtain ⟨T, K, eT⟩ := x2 h
            rw [v2 h T K, eT]
        subst ev
        refine ⟨J2, ?_, fun a ha => ?_⟩
        · unfold FX12_talk
          rw [r1, obind, if_neg tb1, zlet, r2, if_neg (by decide), if_pos rfl, eR, obind]
        · rw [FR a (by unfold psl at ha; omega) (by unfold psl at ha; omega), up_row (by unfold psl at ha; omega)]
  · obtain ⟨v, e, h⟩ := q_talk_plain (L := L) Y y u hu
    exact ⟨v, I, e, FP.rf, h⟩
