/-! REACHED and CUT, by the reference. -/
def FC (b : Nat) (I J : tq_PI) : Prop := ∀ a, a ≠ b → J a = I a
theorem FC.rf {b : Nat} {I : tq_PI} : FC b I I := fun _ _ => rfl
theorem FC.tr {b : Nat} {I J M : tq_PI} (h : FC b I J) (k : FC b J M) : FC b I M := fun a q => (k a q).trans (h a q)
theorem FC.up {b j : Nat} {I : tq_PI} {x : Int32} : FC b I (tq_up2 I b j x) := fun _ q => tq_up2_ne q
theorem RW.fc {I J : tq_PI} {w h b : Nat} (R : RW I w h) (F : FC b I J) (q : b ≠ 136) : RW J w h := by
  unfold RW
  rw [F 136 (fun e => q e.symm)]
  exact R
theorem GR.fc {I J : tq_PI} {w h l b : Nat} {K : Nat → Nat} (G : GR I w h l K) (F : FC b I J) (q : b ≠ 140) : GR J w h l K := by
  unfold GR
  rw [F 140 (fun e => q e.symm)]
  exact G
def air (w h : Nat) (K : Nat → Nat) (p : Nat) : Bool := ar w h p && decide (K p = 0)
def edg (w h s : Nat) (p : Nat) : Bool := ar w h p && decide (p % 8 = if s = 0 then 0 else w - 1)
def zB (b : Bool) : Int32 := if b then zI 1 else zI 0
theorem zB_0 (b : Bool) : (zB b = zI 0) = (b = false) := by cases b <;> simp [zB]; decide
theorem air_48 {w h : Nat} {K : Nat → Nat} (k : wh w h) {p : Nat} (q : air w h K p = true) : p < 48 := by
  simp only [air, Bool.and_eq_true] at q
  exact ar_lt k.2.2.2 q.1
/-- a set of cells, as a row of booleans -/
def MT (I : tq_PI) (w h : Nat) (P : Nat → Bool) : Prop := (∀ c, c < w * h → I 141 c = zB (P (pl w c))) ∧ ∀ p, P p = true → ar w h p = true
def pup (P : Nat → Bool) (p : Nat) (b : Bool) (q : Nat) : Bool := if q = p then b else P q
theorem MT.up {I : tq_PI} {w h : Nat} {P : Nat → Bool} (k : wh w h) (M : MT I w h P) {c : Nat} (hc : c < w * h) (b : Bool) : MT (tq_up2 I 141 c (zB b)) w h (pup P (pl w c) b) := by
  refine ⟨fun d hd => ?_, fun p hp => ?_⟩
  · unfold pup
    by_cases e : d = c
    · rw [e, up_s, if_pos rfl]
    · rw [up_n _ _ (Or.inr e), if_neg (fun q => e (pl_inj k q))]
      exact M.1 d hd
  · unfold pup at hp
    by_cases e : p = pl w c
    · rw [e]; exact pl_ar k hc
    · rw [if_neg e] at hp; exact M.2 p hp
theorem r_beside {I : tq_PI} {w h : Nat} (R : RW I w h) (L : tq_PL) {c d : Nat} (hc : c < w * h) (hd : d < 4) : FX12_beside I L 136 (zI (c : Int)) (zI (d : Int)) = some (zI (bs w h c d)) := by
  have hm := r_many R L
  obtain ⟨R1, R2, k⟩ := R
  have h48 := wh_le k
  obtain ⟨q1, q2, q3, q4⟩ := k
  have hml : c % w < w := Nat.mod_lt _ (by omega)
  have e3 : ((c : Int) % (w : Int)) = ((c % w : Nat) : Int) := rfl
  unfold FX12_beside bs
  rw [hm, R1]
  rcases (by omega : d = 0 ∨ d = 1 ∨ d = 2 ∨ d = 3) with rfl | rfl | rfl | rfl
  · simp (disch := omega) only [zlet, obind, zI_lit, zI_neg, zI_add, zI_sub, zI_mul, zI_div, zI_le, zI_lt, zI_eq, zI_cl, irem, ile_t, ile_f, ilt_t, ilt_f, ieq_t, ieq_f, and_true, true_and, and_false, false_and, and_self, not_true_eq_false, not_false_eq_true, ↓reduceIte, Int.toNat_natCast, tqb_z, tqb_t, tqb_f]
    by_cases q : c < w
    · simp (disch := omega) only [zlet, obind, zI_lit, zI_neg, zI_add, zI_sub, zI_mul, zI_div, zI_le, zI_lt, zI_eq, zI_cl, irem, ile_t, ile_f, ilt_t, ilt_f, ieq_t, ieq_f, and_true, true_and, and_false, false_and, and_self, not_true_eq_false, not_false_eq_true, ↓reduceIte, Int.toNat_natCast, tqb_z, tqb_t, tqb_f, q]
    · simp (disch := omega) only [zlet, obind, zI_lit, zI_neg, zI_add, zI_sub, zI_mul, zI_div, zI_le, zI_lt, zI_eq, zI_cl, irem, ile_t, ile_f, ilt_t, ilt_f, ieq_t, ieq_f, and_true, true_and, and_false, false_and, and_self, not_true_eq_false, not_false_eq_true, ↓reduceIte, Int.toNat_natCast, tqb_z, tqb_t, tqb_f, q]
  · simp (disch := omega) only [zlet, obind, zI_lit, zI_neg, zI_add, zI_sub, zI_mul, zI_div, zI_le, zI_lt, zI_eq, zI_cl, irem, ile_t, ile_f, ilt_t, ilt_f, ieq_t, ieq_f, and_true, true_and, and_false, false_and, and_self, not_true_eq_false, not_false_eq_true, ↓reduceIte, Int.toNat_natCast, tqb_z, tqb_t, tqb_f, e3]
    by_cases q : c % w + 1 = w
    · simp (disch := omega) only [zlet, obind, zI_lit, zI_neg, zI_add, zI_sub, zI_mul, zI_div, zI_le, zI_lt, zI_eq, zI_cl, irem, ile_t, ile_f, ilt_t, ilt_f, ieq_t, ieq_f, and_true, true_and, and_false, false_and, and_self, not_true_eq_false, not_false_eq_true, ↓reduceIte, Int.toNat_natCast, tqb_z, tqb_t, tqb_f, q]
      simp
    · simp (disch := omega) only [zlet, obind, zI_lit, zI_neg, zI_add, zI_sub, zI_mul, zI_div, zI_le, zI_lt, zI_eq, zI_cl, irem, ile_t, ile_f, ilt_t, ilt_f, ieq_t, ieq_f, and_true, true_and, and_false, false_and, and_self, not_true_eq_false, not_false_eq_true, ↓reduceIte, Int.toNat_natCast, tqb_z, tqb_t, tqb_f, q]
      simp [q]
  · simp (disch := omega) only [zlet, obind, zI_lit, zI_neg, zI_add, zI_sub, zI_mul, zI_div, zI_le, zI_lt, zI_eq, zI_cl, irem, ile_t, ile_f, ilt_t, ilt_f, ieq_t, ieq_f, and_true, true_and, and_false, false_and, and_self, not_true_eq_false, not_false_eq_true, ↓reduceIte, Int.toNat_natCast, tqb_z, tqb_t, tqb_f]
    by_cases q : c + w < w * h
    · simp (disch := omega) only [zlet, obind, zI_lit, zI_neg, zI_add, zI_sub, zI_mul, zI_div, zI_le, zI_lt, zI_eq, zI_cl, irem, ile_t, ile_f, ilt_t, ilt_f, ieq_t, ieq_f, and_true, true_and, and_false, false_and, and_self, not_true_eq_false, not_false_eq_true, ↓reduceIte, Int.toNat_natCast, tqb_z, tqb_t, tqb_f, q]
      simp [q]
    · simp (disch := omega) only [zlet, obind, zI_lit, zI_neg, zI_add, zI_sub, zI_mul, zI_div, zI_le, zI_lt, zI_eq, zI_cl, irem, ile_t, ile_f, ilt_t, ilt_f, ieq_t, ieq_f, and_true, true_and, and_false, false_and, and_self, not_true_eq_false, not_false_eq_true, ↓reduceIte, Int.toNat_natCast, tqb_z, tqb_t, tqb_f, q]
      simp [q]
  · simp (disch := omega) only [zlet, obind, zI_lit, zI_neg, zI_add, zI_sub, zI_mul, zI_div, zI_le, zI_lt, zI_eq, zI_cl, irem, ile_t, ile_f, ilt_t, ilt_f, ieq_t, ieq_f, and_true, true_and, and_false, false_and, and_self, not_true_eq_false, not_false_eq_true, ↓reduceIte, Int.toNat_natCast, tqb_z, tqb_t, tqb_f, e3]
    by_cases q : c % w = 0
    · simp (disch := omega) only [zlet, obind, zI_lit, zI_neg, zI_add, zI_sub, zI_mul, zI_div, zI_le, zI_lt, zI_eq, zI_cl, irem, ile_t, ile_f, ilt_t, ilt_f, ieq_t, ieq_f, and_true, true_and, and_false, false_and, and_self, not_true_eq_false, not_false_eq_true, ↓reduceIte, Int.toNat_natCast, tqb_z, tqb_t, tqb_f, q]
      simp
    · simp (disch := omega) only [zlet, obind, zI_lit, zI_neg, zI_add, zI_sub, zI_mul, zI_div, zI_le, zI_lt, zI_eq, zI_cl, irem, ile_t, ile_f, ilt_t, ilt_f, ieq_t, ieq_f, and_true, true_and, and_false, false_and, and_self, not_true_eq_false, not_false_eq_true, ↓reduceIte, Int.toNat_natCast, tqb_z, tqb_t, tqb_f, q]
      simp [q]
/-- what a sweep may add -/
def CS (O P Q : Nat → Bool) : Prop := (∀ p, P p = true → Q p = true) ∧ ∀ Y : Nat → Bool, (∀ q p, Y q = true → adj q p → O p = true → Y p = true) → (∀ p, P p = true → Y p = true) → ∀ p, Q p = true → Y p = true
theorem CS.rf {O P : Nat → Bool} : CS O P P := ⟨fun _ h => h, fun _ _ h => h⟩
theorem CS.tr {O P Q T : Nat → Bool} (h : CS O P Q) (k : CS O Q T) : CS O P T := ⟨fun p q => k.1 p (h.1 p q), fun Y hY hP => k.2 Y hY (h.2 Y hY hP)⟩
theorem CS.up {O P : Nat → Bool} {c e : Nat} (hc : P c = true) (a : adj c e) (o : O e = true) : CS O P (pup P e true) := by
  refine ⟨fun p hp => ?_, fun Y hY hP p hp => ?_⟩
  · unfold pup; split
    · rfl
    · exact hp
  · unfold pup at hp
    by_cases q : p = e
    · rw [q]; exact hY c e (hP c hc) a o
    · rw [if_neg q] at hp; exact hP p hp
theorem ct_up1 {P : Nat → Bool} {e n : Nat} (he : e < n) (h : P e = false) : fb_ct (pup P e true) n = fb_ct P n + 1 := by
  have := fb_ct_upd P true (i := e) (n := n) he
  rw [h] at this
  simp only [if_true, Bool.false_eq_true, if_false, Nat.add_zero] at this
  exact this
/-- the neighbours of one cell -/
theorem r_reach_d {I : tq_PI} {w h l : Nat} {Kk : Nat → Nat} {P0 : Nat → Bool} (R : RW I w h) (G : GR I w h l Kk) (hl : l ≤ 3) (L : tq_PL) (M : MT I w h P0) {c : Nat} (hc : c < w * h) (m0 : Bool) : ∃ (m1 : Bool) (J : tq_PI) (P1 : Nat → Bool), tq_it (fun p : Int32 × Int32 × tq_PI => FX12_reaches_s73 p.2.2 L 136 (zI (l : Int)) (zI (c : Int)) p.1 p.2.1) tq_N (zB m0, zI ((0 : Nat) : Int), I) = some (zB m1, J) ∧ FC 141 I J ∧ MT J w h P1 ∧ CS (air w h Kk) P0 P1 ∧ (m1 = false → m0 = false ∧ P1 = P0 ∧ (P0 (pl w c) = true → ∀ e, e < w * h → adj (pl w c) (pl w e) → air w h Kk (pl w e) = true → P0 (pl w e) = true)) ∧ (m1 = true → m0 = true ∨ fb_ct P0 64 < fb_ct P1 64) := by
  have k := R.2.2
  have h48 := wh_le k
  have kz : ∀ p, (zI ((Kk p : Nat) : Int) = zI 0) = (Kk p = 0) := fun p => by
    have := G.2.1 p
    rw [zI_eq (by omega) (by omega)]
    simp
  have key := it_for (f := fun p : Int32 × Int32 × tq_PI => FX12_reaches_s73 p.2.2 L 136 (zI (l : Int)) (zI (c : Int)) p.1 p.2.1) (fun i (s : Int32 × tq_PI) => (s.1, zI (i : Int), s.2)) 4 (fun i s => ∃ (m : Bool) (P1 : Nat → Bool), s.1 = zB m ∧ FC 141 I s.2 ∧ MT s.2 w h P1 ∧ CS (air w h Kk) P0 P1 ∧ (m = false → m0 = false ∧ P1 = P0 ∧ (P0 (pl w c) = true → ∀ d, d < i → ∀ e : Nat, e < w * h → bs w h c d = e → air w h Kk (pl w e) = true → P0 (pl w e) = true)) ∧ (m = true → m0 = true ∨ fb_ct P0 64 < fb_ct P1 64)) (Post := fun b => ∃ (m1 : Bool) (P1 : Nat → Bool), b.1 = zB m1 ∧ FC 141 I b.2 ∧ MT b.2 w h P1 ∧ CS (air w h Kk) P0 P1 ∧ (m1 = false → m0 = false ∧ P1 = P0 ∧ (P0 (pl w c) = true → ∀ d, d < 4 → ∀ e : Nat, e < w * h → bs w h c d = e → air w h Kk (pl w e) = true → P0 (pl w e) = true)) ∧ (m1 = true → m0 = true ∨ fb_ct P0 64 < fb_ct P1 64)) (fun i s hi hs => by
    obtain ⟨m, J⟩ := s
    obtain ⟨m, P1, rfl, F, M1, C1, h1, h2⟩ := hs
    dsimp only at F M1 ⊢
    have RJ := R.fc F (by omega)
    have GJ := G.fc F (by omega)
    unfold FX12_reaches_s73 FX12_reaches_j138L73
    simp (disch := omega) only [zlet, obind, zI_lit, zI_neg, zI_add, zI_sub, zI_mul, zI_div, zI_le, zI_lt, zI_eq, zI_cl, irem, ile_t, ile_f, ilt_t, ilt_f, ieq_t, ieq_f, and_true, true_and, and_false, false_and, and_self, not_true_eq_false, not_false_eq_true, ↓reduceIte, Int.toNat_natCast, tqb_z, tqb_t, tqb_f, g16, M1.1 c hc, zB_0]
    by_cases pc : P1 (pl w c) = false
    · rw [if_pos pc]
      refine Or.inr ⟨_, rfl, m, P1, rfl, F, M1, C1, fun q => ?_, h2⟩
      obtain ⟨q1, q2, q3⟩ := h1 q
      refine ⟨q1, q2, fun r => ?_⟩
      rw [← q2, pc] at r
      cases r
    · rw [if_neg pc, r_beside RJ L hc hi, obind]
      have pct : P1 (pl w c) = true := by simpa using pc
      rcases bs_cell k hc i with b1 | ⟨e, b1, he, a⟩
      · rw [b1, if_pos (by rfl)]
        refine Or.inl ⟨(zB m, J), rfl, m, P1, rfl, F, M1, C1, fun q => ?_, h2⟩
        obtain ⟨q1, q2, q3⟩ := h1 q
        refine ⟨q1, q2, fun r d hd e he hb => ?_⟩
        by_cases q4 : d = i
        · rw [q4, b1] at hb; omega
        · exact q3 r d (by omega) e he hb
      · rw [b1]
        simp (disch := omega) only [zlet, obind, zI_lit, zI_neg, zI_add, zI_sub, zI_mul, zI_div, zI_le, zI_lt, zI_eq, zI_cl, irem, ile_t, ile_f, ilt_t, ilt_f, ieq_t, ieq_f, and_true, true_and, and_false, false_and, and_self, not_true_eq_false, not_false_eq_true, ↓reduceIte, Int.toNat_natCast, tqb_z, tqb_t, tqb_f, M1.1 e he, zB_0, r_kind k GJ hl, kz]
        by_cases pe : P1 (pl w e) = false
        · rw [if_pos pe]
          by_cases ke : Kk (pl w e) = 0
          · rw [if_pos ke]
            have ha : air w h Kk (pl w e) = true := by simp [air, pl_ar k he, ke]
            refine Or.inl ⟨(zI 1, tq_up2 J 141 e (zI 1)), rfl, true, pup P1 (pl w e) true, rfl, F.tr FC.up, M1.up k he true, C1.tr (CS.up pct a ha), fun q => (by cases q), fun _ => ?_⟩
            have h3 := ct_up1 (n := 64) (by have := pl_48 k he; omega) pe
            have h4 := fb_ct_sub (p := P0) (q := P1) (n := 64) (fun p _ q => C1.1 p q)
            exact Or.inr (by omega)
          · rw [if_neg ke]
            refine Or.inl ⟨(zB m, J), rfl, m, P1, rfl, F, M1, C1, fun q => ?_, h2⟩
            obtain ⟨q1, q2, q3⟩ := h1 q
            refine ⟨q1, q2, fun r d hd e2 he2 hb => ?_⟩
            by_cases q4 : d = i
            · rw [q4, b1] at hb
              have : e2 = e := by omega
              intro q5
              rw [this] at q5
              simp [air, ke] at q5
            · exact q3 r d (by omega) e2 he2 hb
        · rw [if_neg pe]
          refine Or.inl ⟨(zB m, J), rfl, m, P1, rfl, F, M1, C1, fun q => ?_, h2⟩
          obtain ⟨q1, q2, q3⟩ := h1 q
          refine ⟨q1, q2, fun r d hd e2 he2 hb => ?_⟩
          by_cases q4 : d = i
          · rw [q4, b1] at hb
            have : e2 = e := by omega
            intro _
            rw [this, ← q2]
            simpa using pe
          · exact q3 r d (by omega) e2 he2 hb) (fun s hs => by
    unfold FX12_reaches_s73
    simp (disch := omega) only [zlet, obind, zI_lit, zI_neg, zI_add, zI_sub, zI_mul, zI_div, zI_le, zI_lt, zI_eq, zI_cl, irem, ile_t, ile_f, ilt_t, ilt_f, ieq_t, ieq_f, and_true, true_and, and_false, false_and, and_self, not_true_eq_false, not_false_eq_true, ↓reduceIte, Int.toNat_natCast, tqb_z, tqb_t, tqb_f]
    exact ⟨_, rfl, hs⟩) 0 (zB m0, I) (by omega) (by omega) ⟨m0, P0, rfl, FC.rf, M, CS.rf, fun q => ⟨q, rfl, fun _ d hd => absurd hd (Nat.not_lt_zero d)⟩, fun q => Or.inl q⟩
  obtain ⟨⟨b1, b2⟩, e, m1, P1, rfl, F, M1, C1, h1, h2⟩ := key
  refine ⟨m1, b2, P1, e, F, M1, C1, fun q => ?_, h2⟩
  obtain ⟨q1, q2, q3⟩ := h1 q
  refine ⟨q1, q2, fun r e he a ha => ?_⟩
  obtain ⟨d, hd, hb⟩ := bs_adj k hc he a
  exact q3 r d hd e he hb ha
/-- one sweep -/
theorem r_reach_c {I : tq_PI} {w h l : Nat} {Kk : Nat → Nat} {P0 : Nat → Bool} (R : RW I w h) (G : GR I w h l Kk) (hl : l ≤ 3) (L : tq_PL) (M : MT I w h P0) : ∃ (m1 : Bool) (J : tq_PI) (P1 : Nat → Bool), tq_it (fun p : Int32 × Int32 × tq_PI => FX12_reaches_s61 p.2.2 L 136 (zI (l : Int)) p.1 p.2.1) tq_N (zB false, zI ((0 : Nat) : Int), I) = some (zB m1, J) ∧ FC 141 I J ∧ MT J w h P1 ∧ CS (air w h Kk) P0 P1 ∧ (m1 = false → P1 = P0 ∧ ∀ q p, P0 q = true → adj q p → air w h Kk p = true → P0 p = true) ∧ (m1 = true → fb_ct P0 64 < fb_ct P1 64) := by
  have k := R.2.2
  have h48 := wh_le k
  have key := it_for (f := fun p : Int32 × Int32 × tq_PI => FX12_reaches_s61 p.2.2 L 136 (zI (l : Int)) p.1 p.2.1) (fun i (s : Int32 × tq_PI) => (s.1, zI (i : Int), s.2)) (w * h) (fun i s => ∃ (m : Bool) (P1 : Nat → Bool), s.1 = zB m ∧ FC 141 I s.2 ∧ MT s.2 w h P1 ∧ CS (air w h Kk) P0 P1 ∧ (m = false → P1 = P0 ∧ ∀ c, c < i → P0 (pl w c) = true → ∀ e, e < w * h → adj (pl w c) (pl w e) → air w h Kk (pl w e) = true → P0 (pl w e) = true) ∧ (m = true → fb_ct P0 64 < fb_ct P1 64)) (Post := fun s => ∃ (m : Bool) (P1 : Nat → Bool), s.1 = zB m ∧ FC 141 I s.2 ∧ MT s.2 w h P1 ∧ CS (air w h Kk) P0 P1 ∧ (m = false → P1 = P0 ∧ ∀ c, c < w * h → P0 (pl w c) = true → ∀ e, e < w * h → adj (pl w c) (pl w e) → air w h Kk (pl w e) = true → P0 (pl w e) = true) ∧ (m = true → fb_ct P0 64 < fb_ct P1 64)) (fun i s hi hs => by
    obtain ⟨m, J⟩ := s
    obtain ⟨m, P1, rfl, F, M1, C1, h1, h2⟩ := hs
    dsimp only at F M1 ⊢
    have RJ := R.fc F (by omega)
    have GJ := G.fc F (by omega)
    obtain ⟨m2, J2, P2, e2, F2, M2, C2, h3, h4⟩ := r_reach_d RJ GJ hl L M1 hi m
    unfold FX12_reaches_s61
    simp (disch := omega) only [zlet, obind, zI_lit, zI_neg, zI_add, zI_sub, zI_mul, zI_div, zI_le, zI_lt, zI_eq, zI_cl, irem, ile_t, ile_f, ilt_t, ilt_f, ieq_t, ieq_f, and_true, true_and, and_false, false_and, and_self, not_true_eq_false, not_false_eq_true, ↓reduceIte, Int.toNat_natCast, tqb_z, tqb_t, tqb_f, r_many RJ]
    refine Or.inl ⟨(zB m2, J2), (congrArg (fun o => Option.bind o _) e2).trans (obind _ _), m2, P2, rfl, F.tr F2, M2, C1.tr C2, fun q => ?_, fun q => ?_⟩
    · obtain ⟨q1, q2, q3⟩ := h3 q
      obtain ⟨q4, q5⟩ := h1 q1
      refine ⟨q2.trans q4, fun c hc r => ?_⟩
      by_cases q6 : c = i
      · rw [q6] at r ⊢
        rw [q4] at q3
        exact q3 r
      · exact q5 c (by omega) r
    · rcases h4 q with q1 | q1
      · have h5 := h2 q1
        have h6 := fb_ct_sub (p := P1) (q := P2) (n := 64) (fun p _ q => C2.1 p q)
        omega
      · have h6 := fb_ct_sub (p := P0) (q := P1) (n := 64) (fun p _ q => C1.1 p q)
        omega) (fun s hs => by
    have hs2 := hs
    obtain ⟨m, P1, -, F, -⟩ := hs2
    have RJ := R.fc F (by omega)
    unfold FX12_reaches_s61
    simp (disch := omega) only [zlet, obind, zI_lit, zI_neg, zI_add, zI_sub, zI_mul, zI_div, zI_le, zI_lt, zI_eq, zI_cl, irem, ile_t, ile_f, ilt_t, ilt_f, ieq_t, ieq_f, and_true, true_and, and_false, false_and, and_self, not_true_eq_false, not_false_eq_true, ↓reduceIte, Int.toNat_natCast, tqb_z, tqb_t, tqb_f, r_many RJ]
    exact ⟨_, rfl, hs⟩) 0 (zB false, I) (by omega) (by omega) ⟨false, P0, rfl, FC.rf, M, CS.rf, fun _ => ⟨rfl, fun c hc => absurd hc (Nat.not_lt_zero c)⟩, fun q => (by cases q)⟩
  obtain ⟨⟨b1, b2⟩, e, m1, P1, rfl, F, M1, C1, h1, h2⟩ := key
  refine ⟨m1, b2, P1, e, F, M1, C1, fun q => ?_, h2⟩
  obtain ⟨q1, q2⟩ := h1 q
  refine ⟨q1, fun q p hq a ha => ?_⟩
  have aq := M.2 q hq
  have ap : ar w h p = true := by simp only [air, Bool.and_eq_true] at ha; exact ha.1
  have := q2 (cl w q) (cl_lt k aq) (by rw [pl_cl k aq]; exact hq) (cl w p) (cl_lt k ap) (by rw [pl_cl k aq, pl_cl k ap]; exact a) (by rw [pl_cl k ap]; exact ha)
  rw [pl_cl k ap] at this
  exact this
def rea (w h : Nat) (K : Nat → Nat) (s : Nat) : Nat → Bool := flo (air w h K) (fun p => edg w h s p && air w h K p)
theorem r_reaches {I : tq_PI} {w h l : Nat} {Kk : Nat → Nat} (R : RW I w h) (G : GR I w h l Kk) (hl : l ≤ 3) (L : tq_PL) {s : Nat} (hs : s < 2) : ∃ J : tq_PI, FX12_reaches I L 136 (zI (l : Int)) (zI (s : Int)) = some J ∧ FC 141 I J ∧ MT J w h (rea w h Kk s) := by
  have k := R.2.2
  have h48 := wh_le k
  have kz : ∀ p, (zI ((Kk p : Nat) : Int) = zI 0) = (Kk p = 0) := fun p => by
    have := G.2.1 p
    rw [zI_eq (by omega) (by omega)]
    simp
  obtain ⟨J1, e1, F1, M1⟩ := it_for (f := fun p : Int32 × tq_PI => FX12_reaches_s2 p.2 L 136 (zI (l : Int)) (zI (s : Int)) p.1) (fun i (J : tq_PI) => (zI (i : Int), J)) (w * h) (fun i J => FC 141 I J ∧ ∀ c, c < i → J 141 c = zB (edg w h s (pl w c) && air w h Kk (pl w c))) (Post := fun J => FC 141 I J ∧ ∀ c, c < w * h → J 141 c = zB (edg w h s (pl w c) && air w h Kk (pl w c))) (fun i J hi hs2 => by
    obtain ⟨F, hM⟩ := hs2
    have RJ := R.fc F (by omega)
    have GJ := G.fc F (by omega)
    obtain ⟨q1, q2, q3, q4⟩ := k
    have kk : wh w h := ⟨q1, q2, q3, q4⟩
    have hml : i % w < w := Nat.mod_lt _ (by omega)
    have hm := pl_mod kk i
    have e3 : ((i : Int) % (w : Int)) = ((i % w : Nat) : Int) := rfl
    have fin : ∀ b : Bool, b = (edg w h s (pl w i) && air w h Kk (pl w i)) → ∀ c, c < i + 1 → tq_up2 J 141 i (zB b) 141 c = zB (edg w h s (pl w c) && air w h Kk (pl w c)) := fun b hb c hc => by
      by_cases q : c = i
      · rw [q, up_s, hb]
      · rw [up_n _ _ (Or.inr q)]
        exact hM c (by omega)
    unfold FX12_reaches_s2 FX12_reaches_j42L2 FX12_reaches_j43L2 FX12_outermost
    simp (disch := omega) only [zlet, obind, zI_lit, zI_neg, zI_add, zI_sub, zI_mul, zI_div, zI_le, zI_lt, zI_eq, zI_cl, irem, ile_t, ile_f, ilt_t, ilt_f, ieq_t, ieq_f, and_true, true_and, and_false, false_and, and_self, not_true_eq_false, not_false_eq_true, ↓reduceIte, Int.toNat_natCast, tqb_z, tqb_t, tqb_f, r_many RJ, r_kind kk GJ hl, kz, RJ.1, g16, e3, true_or, or_true]
    by_cases ke : Kk (pl w i) = 0
    · rw [if_pos ke]
      have ha : air w h Kk (pl w i) = true := by simp [air, pl_ar kk hi, ke]
      rcases (by omega : s = 0 ∨ s = 1) with rfl | rfl
      · simp (disch := omega) only [zlet, obind, zI_lit, zI_neg, zI_add, zI_sub, zI_mul, zI_div, zI_le, zI_lt, zI_eq, zI_cl, irem, ile_t, ile_f, ilt_t, ilt_f, ieq_t, ieq_f, and_true, true_and, and_false, false_and, and_self, not_true_eq_false, not_false_eq_true, ↓reduceIte, Int.toNat_natCast, tqb_z, tqb_t, tqb_f]
        by_cases q : i % w = 0
        · rw [if_pos (by omega)]
          exact Or.inl ⟨_, rfl, F.tr FC.up, fin true (by rw [ha]; simp [edg, pl_ar kk hi, hm, q])⟩
        · rw [if_neg (by omega)]
          exact Or.inl ⟨_, rfl, F.tr FC.up, fin false (by rw [ha]; simp [edg, pl_ar kk hi, hm, q])⟩
      · simp (disch := omega) only [zlet, obind, zI_lit, zI_neg, zI_add, zI_sub, zI_mul, zI_div, zI_le, zI_lt, zI_eq, zI_cl, irem, ile_t, ile_f, ilt_t, ilt_f, ieq_t, ieq_f, and_true, true_and, and_false, false_and, and_self, not_true_eq_false, not_false_eq_true, ↓reduceIte, Int.toNat_natCast, tqb_z, tqb_t, tqb_f]
        by_cases q : i % w = w - 1
        · rw [if_pos (by omega)]
          exact Or.inl ⟨_, rfl, F.tr FC.up, fin true (by rw [ha]; simp [edg, pl_ar kk hi, hm, q])⟩
        · rw [if_neg (by omega)]
          exact Or.inl ⟨_, rfl, F.tr FC.up, fin false (by rw [ha]; simp [edg, pl_ar kk hi, hm, q])⟩
    · rw [if_neg ke]
      exact Or.inl ⟨_, rfl, F.tr FC.up, fin false (by simp [air, ke])⟩) (fun J hs2 => by
    have RJ := R.fc hs2.1 (by omega)
    unfold FX12_reaches_s2
    simp (disch := omega) only [zlet, obind, zI_lit, zI_neg, zI_add, zI_sub, zI_mul, zI_div, zI_le, zI_lt, zI_eq, zI_cl, irem, ile_t, ile_f, ilt_t, ilt_f, ieq_t, ieq_f, and_true, true_and, and_false, false_and, and_self, not_true_eq_false, not_false_eq_true, ↓reduceIte, Int.toNat_natCast, tqb_z, tqb_t, tqb_f, r_many RJ]
    exact ⟨_, rfl, hs2⟩) 0 I (by omega) (by omega) ⟨FC.rf, fun c hc => absurd hc (Nat.not_lt_zero c)⟩
  have MT1 : MT J1 w h (fun p => edg w h s p && air w h Kk p) := ⟨M1, fun p q => by simp only [edg, Bool.and_eq_true] at q; exact q.1.1⟩
  have hE : ∀ p, (edg w h s p && air w h Kk p) = true → p < 48 := fun p q => by
    simp only [edg, Bool.and_eq_true] at q
    exact ar_lt k.2.2.2 q.1.1
  obtain ⟨J2, e2, F2, M2⟩ := it_m (f := fun p : Int32 × tq_PI => FX12_reaches_s52 p.2 L 136 (zI (l : Int)) p.1) (Inv := fun m a => ∃ (b : Bool) (J : tq_PI) (P : Nat → Bool), a = (zB b, J) ∧ FC 141 I J ∧ MT J w h P ∧ CS (air w h Kk) (fun p => edg w h s p && air w h Kk p) P ∧ (b = false → ∀ q p, P q = true → adj q p → air w h Kk p = true → P p = true) ∧ m = 2 * (64 - fb_ct P 64) + if b then 1 else 0) (Post := fun J => FC 141 I J ∧ MT J w h (rea w h Kk s)) (fun m a ha => by
    obtain ⟨b, J, P, rfl, F, M, C, h1, h2⟩ := ha
    unfold FX12_reaches_s52
    simp only [zI_lit, zB_0]
    cases b
    · rw [if_pos rfl]
      have : P = rea w h Kk s := flo_eq hE (fun p q => air_48 k q) C.1 (h1 rfl) (fun Y hY1 hY2 => C.2 Y hY2 hY1)
      exact Or.inr ⟨_, rfl, F, by rw [← this]; exact M⟩
    · rw [if_neg (by simp)]
      obtain ⟨m2, J2, P2, e2, F2, M2, C2, h3, h4⟩ := r_reach_c (R.fc F (by omega)) (G.fc F (by omega)) hl L M
      refine Or.inl ⟨(zB m2, J2), _, (congrArg (fun o => Option.bind o _) e2).trans (obind _ _), ?_, m2, J2, P2, rfl, F.tr F2, M2, C.tr C2, fun q => ?_, rfl⟩
      · rw [h2]
        cases m2
        · have := (h3 rfl).1
          rw [this]
          simp
        · have h5 := h4 rfl
          have h6 := fb_ct_le P2 64
          simp
          omega
      · obtain ⟨q1, q2⟩ := h3 q
        rw [q1]
        exact q2) tq_N _ (zB true, J1) (by rw [tq_N_eq]; have := fb_ct_le (fun p => edg w h s p && air w h Kk p) 64; simp; omega) ⟨true, J1, _, rfl, F1, MT1, CS.rf, fun q => (by cases q), rfl⟩
  refine ⟨J2, ?_, F2, M2⟩
  unfold FX12_reaches
  refine (congrArg (fun o => Option.bind o _) e1).trans ((obind _ _).trans ?_)
  exact (congrArg (fun o => Option.bind o _) e2).trans (obind _ _)
/-- what a side can cut -/
def cut (w h : Nat) (K : Nat → Nat) (s : Nat) (p : Nat) : Bool := sto K p && (edg w h s p || nxt (rea w h K s) p)
theorem r_isCut {I : tq_PI} {w h l : Nat} {Kk : Nat → Nat} (R : RW I w h) (G : GR I w h l Kk) (hl : l ≤ 3) (L : tq_PL) {s : Nat} (hs : s < 2) (M : MT I w h (rea w h Kk s)) {c : Nat} (hc : c < w * h) : FX12_isCut I L 136 (zI (l : Int)) (zI (s : Int)) (zI (c : Int)) = some (cut w h Kk s (pl w c)) := by
  have k := R.2.2
  have h48 := wh_le k
  obtain ⟨q1, q2, q3, q4⟩ := k
  have kk : wh w h := ⟨q1, q2, q3, q4⟩
  have hml : c % w < w := Nat.mod_lt _ (by omega)
  have hm := pl_mod kk c
  have e3 : ((c : Int) % (w : Int)) = ((c % w : Nat) : Int) := rfl
  have hK := G.2.1 (pl w c)
  have st : FX12_isStone I L (zI (Kk (pl w c) : Nat)) = sto Kk (pl w c) := by
    unfold FX12_isStone FX12_isStone_j14 sto
    by_cases a : Kk (pl w c) = 0
    · simp (disch := omega) only [zlet, obind, zI_lit, zI_neg, zI_add, zI_sub, zI_mul, zI_div, zI_le, zI_lt, zI_eq, zI_cl, irem, ile_t, ile_f, ilt_t, ilt_f, ieq_t, ieq_f, and_true, true_and, and_false, false_and, and_self, not_true_eq_false, not_false_eq_true, ↓reduceIte, Int.toNat_natCast, tqb_z, tqb_t, tqb_f]; simp [a]
    · by_cases b : Kk (pl w c) = 4
      · simp (disch := omega) only [zlet, obind, zI_lit, zI_neg, zI_add, zI_sub, zI_mul, zI_div, zI_le, zI_lt, zI_eq, zI_cl, irem, ile_t, ile_f, ilt_t, ilt_f, ieq_t, ieq_f, and_true, true_and, and_false, false_and, and_self, not_true_eq_false, not_false_eq_true, ↓reduceIte, Int.toNat_natCast, tqb_z, tqb_t, tqb_f]; simp [b]
      · simp (disch := omega) only [zlet, obind, zI_lit, zI_neg, zI_add, zI_sub, zI_mul, zI_div, zI_le, zI_lt, zI_eq, zI_cl, irem, ile_t, ile_f, ilt_t, ilt_f, ieq_t, ieq_f, and_true, true_and, and_false, false_and, and_self, not_true_eq_false, not_false_eq_true, ↓reduceIte, Int.toNat_natCast, tqb_z, tqb_t, tqb_f]; symm; rw [decide_eq_true_eq]; omega
  have key : ∀ b : Bool, FX12_isCut_j33 I L 136 (zI (c : Int)) (zB b) = some (b || nxt (rea w h Kk s) (pl w c)) := fun b => by
    obtain ⟨x, e, b1, rfl, hb⟩ := it_for (f := fun p : Int32 × Int32 => FX12_isCut_s38 I L 136 (zI (c : Int)) p.1 p.2) (fun i (x : Int32) => (x, zI (i : Int))) 4 (fun i x => ∃ b1 : Bool, x = zB b1 ∧ (b1 = true ↔ b = true ∨ ∃ d, d < i ∧ ∃ e : Nat, e < w * h ∧ bs w h c d = e ∧ rea w h Kk s (pl w e) = true)) (Post := fun x => ∃ b1 : Bool, x = zB b1 ∧ (b1 = true ↔ b = true ∨ ∃ d, d < 4 ∧ ∃ e : Nat, e < w * h ∧ bs w h c d = e ∧ rea w h Kk s (pl w e) = true)) (fun i x hi hx => by
      obtain ⟨b1, rfl, hb⟩ := hx
      unfold FX12_isCut_s38 FX12_isCut_j79L38 FX12_isCut_j75L38 FX12_isCut_j80L38
      simp (disch := omega) only [zlet, obind, zI_lit, zI_neg, zI_add, zI_sub, zI_mul, zI_div, zI_le, zI_lt, zI_eq, zI_cl, irem, ile_t, ile_f, ilt_t, ilt_f, ieq_t, ieq_f, and_true, true_and, and_false, false_and, and_self, not_true_eq_false, not_false_eq_true, ↓reduceIte, Int.toNat_natCast, tqb_z, tqb_t, tqb_f, zB_0, r_beside R L hc hi, g16]
      cases b1
      · rw [if_pos rfl]
        rcases bs_cell kk hc i with b2 | ⟨e, b2, he, a⟩
        · rw [b2, if_pos (by rfl)]
          refine Or.inl ⟨zB false, rfl, false, rfl, hb.trans ⟨fun q => ?_, fun q => ?_⟩⟩
          · rcases q with q | ⟨d, hd, q⟩
            · exact Or.inl q
            · exact Or.inr ⟨d, by omega, q⟩
          · rcases q with q | ⟨d, hd, e, he, q, r⟩
            · exact Or.inl q
            · by_cases di : d = i
              · rw [di, b2] at q; omega
              · exact Or.inr ⟨d, by omega, e, he, q, r⟩
        · rw [b2]
          simp (disch := omega) only [zlet, obind, zI_lit, zI_neg, zI_add, zI_sub, zI_mul, zI_div, zI_le, zI_lt, zI_eq, zI_cl, irem, ile_t, ile_f, ilt_t, ilt_f, ieq_t, ieq_f, and_true, true_and, and_false, false_and, and_self, not_true_eq_false, not_false_eq_true, ↓reduceIte, Int.toNat_natCast, tqb_z, tqb_t, tqb_f, M.1 e he, zB_0]
          cases r : rea w h Kk s (pl w e)
          · rw [if_pos rfl]
            refine Or.inl ⟨zB false, rfl, false, rfl, hb.trans ⟨fun q => ?_, fun q => ?_⟩⟩
            · rcases q with q | ⟨d, hd, q⟩
              · exact Or.inl q
              · exact Or.inr ⟨d, by omega, q⟩
            · rcases q with q | ⟨d, hd, e2, he2, q, r2⟩
              · exact Or.inl q
              · by_cases di : d = i
                · rw [di, b2] at q
                  rw [show e2 = e by omega, r] at r2
                  cases r2
                · exact Or.inr ⟨d, by omega, e2, he2, q, r2⟩
          · rw [if_neg (by simp)]
            exact Or.inl ⟨zB true, rfl, true, rfl, ⟨fun _ => Or.inr ⟨i, by omega, e, he, b2, r⟩, fun _ => rfl⟩⟩
      · rw [if_neg (by simp)]
        refine Or.inl ⟨zB true, rfl, true, rfl, ⟨fun q => ?_, fun _ => rfl⟩⟩
        rcases hb.1 rfl with q | ⟨d, hd, q⟩
        · exact Or.inl q
        · exact Or.inr ⟨d, by omega, q⟩) (fun x hx => by
      unfold FX12_isCut_s38
      simp (disch := omega) only [zlet, obind, zI_lit, zI_neg, zI_add, zI_sub, zI_mul, zI_div, zI_le, zI_lt, zI_eq, zI_cl, irem, ile_t, ile_f, ilt_t, ilt_f, ieq_t, ieq_f, and_true, true_and, and_false, false_and, and_self, not_true_eq_false, not_false_eq_true, ↓reduceIte, Int.toNat_natCast, tqb_z, tqb_t, tqb_f]
      exact ⟨_, rfl, hx⟩) 0 (zB b) (by omega) (by omega) ⟨b, rfl, ⟨fun q => Or.inl q, fun q => by
        rcases q with q | ⟨d, hd, _⟩
        · exact q
        · exact absurd hd (Nat.not_lt_zero d)⟩⟩
    have e4 : b1 = (b || nxt (rea w h Kk s) (pl w c)) := by
      rw [Bool.eq_iff_iff, hb, Bool.or_eq_true, nxt_iff]
      constructor
      · rintro (q | ⟨d, hd, e, he, q, r⟩)
        · exact Or.inl q
        · rcases bs_cell kk hc d with b2 | ⟨e2, b2, he2, a⟩
          · rw [b2] at q; omega
          · rw [show e2 = e by omega] at a
            exact Or.inr ⟨_, r, adj_symm a⟩
      · rintro (q | ⟨p, hp, a⟩)
        · exact Or.inl q
        · have ap := M.2 p hp
          obtain ⟨d, hd, q⟩ := bs_adj kk hc (cl_lt kk ap) (by rw [pl_cl kk ap]; exact adj_symm a)
          exact Or.inr ⟨d, hd, cl w p, cl_lt kk ap, q, by rw [pl_cl kk ap]; exact hp⟩
    unfold FX12_isCut_j33
    refine (congrArg (fun o => Option.bind o _) e).trans ((obind _ _).trans ?_)
    rw [← e4]
    cases b1
    · rfl
    · rfl
  unfold FX12_isCut FX12_outermost
  simp (disch := omega) only [r_kind kk G hl, obind, zlet, Int.toNat_natCast, st, tqb_0]
  unfold cut
  cases sb : sto Kk (pl w c)
  · simp
  · rw [if_neg (by simp)]
    simp (disch := omega) only [zlet, obind, zI_lit, zI_neg, zI_add, zI_sub, zI_mul, zI_div, zI_le, zI_lt, zI_eq, zI_cl, irem, ile_t, ile_f, ilt_t, ilt_f, ieq_t, ieq_f, and_true, true_and, and_false, false_and, and_self, not_true_eq_false, not_false_eq_true, ↓reduceIte, Int.toNat_natCast, tqb_z, tqb_t, tqb_f, R.1, e3]
    rcases (by omega : s = 0 ∨ s = 1) with rfl | rfl
    · simp (disch := omega) only [zlet, obind, zI_lit, zI_neg, zI_add, zI_sub, zI_mul, zI_div, zI_le, zI_lt, zI_eq, zI_cl, irem, ile_t, ile_f, ilt_t, ilt_f, ieq_t, ieq_f, and_true, true_and, and_false, false_and, and_self, not_true_eq_false, not_false_eq_true, ↓reduceIte, Int.toNat_natCast, tqb_z, tqb_t, tqb_f]
      by_cases q : c % w = 0
      · rw [if_pos (by omega)]
        exact (key true).trans (by simp [edg, pl_ar kk hc, hm, q])
      · rw [if_neg (by omega)]
        exact (key false).trans (by simp [edg, pl_ar kk hc, hm, q])
    · simp (disch := omega) only [zlet, obind, zI_lit, zI_neg, zI_add, zI_sub, zI_mul, zI_div, zI_le, zI_lt, zI_eq, zI_cl, irem, ile_t, ile_f, ilt_t, ilt_f, ieq_t, ieq_f, and_true, true_and, and_false, false_and, and_self, not_true_eq_false, not_false_eq_true, ↓reduceIte, Int.toNat_natCast, tqb_z, tqb_t, tqb_f]
      by_cases q : c % w = w - 1
      · rw [if_pos (by omega)]
        exact (key true).trans (by simp [edg, pl_ar kk hc, hm, q])
      · rw [if_neg (by omega)]
        exact (key false).trans (by simp [edg, pl_ar kk hc, hm, q])
