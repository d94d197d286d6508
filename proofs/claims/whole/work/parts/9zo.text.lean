/-! TEXT: a line by the class. -/
def pp (B : Nat → Nat) (n p : Nat) : Nat → Nat
  | 0 => p
  | i + 1 => tE B n (pp B n p i)
def blm (x : Nat × Int) (ok : Bool) (k q : Nat) : Nat × Int := if x.1 = 0 ∧ ok = false then (k, (q : Int)) else x
def nlo (s w : Nat) : Nat := if s = 0 ∧ w = 5 then 2 else 0
def nhi (s w i : Nat) : Nat := if s = 3 then 99 else if s = 0 ∧ w = 5 then (if i = 0 then 8 else 6) else if s = 1 ∧ w = 3 then 20 else if i = 2 then 9 else if i = 0 then 7 else 5
def nok (s w i v : Nat) : Bool := decide (nlo s w ≤ v ∧ v ≤ nhi s w i)
def nf (B : Nat → Nat) (n p s w : Nat) (x : Nat × Int) : Nat → Nat × Int
  | 0 => x
  | i + 1 => blm (nf B n p s w x i) (nok s w i (tN B n (pp B n p i))) 2 (tS B n (pp B n p i))
def nmn (s w : Nat) : Nat := if s = 2 then 3 else if s = 3 then 1 else if s = 1 ∧ w = 3 then 1 else 2
def okl (B : Nat → Nat) (n p m : Nat) : Prop := (∀ j, j < m → tK B n (pp B n p j) = 2) ∧ tK B n (pp B n p m) = 3
def erl (B : Nat → Nat) (n p m q : Nat) : Prop := ∃ i, i ≤ m ∧ (∀ j, j < i → tK B n (pp B n p j) = 2) ∧ q = tS B n (pp B n p i) ∧ (i < m → tK B n (pp B n p i) ≠ 2) ∧ (i = m → tK B n (pp B n p i) ≠ 3)
theorem pp_le {B : Nat → Nat} {n p : Nat} (h : p ≤ n) : ∀ i, pp B n p i ≤ n
  | 0 => h
  | i + 1 => tE_le (pp_le h i)
theorem blm_le {x : Nat × Int} {ok : Bool} {k q : Nat} (h : x.1 ≤ 5) (hk : k ≤ 5) : (blm x ok k q).1 ≤ 5 := by
  unfold blm
  split
  · exact hk
  · exact h
theorem nf_le {B : Nat → Nat} {n p s w : Nat} {x : Nat × Int} (h : x.1 ≤ 5) : ∀ i, (nf B n p s w x i).1 ≤ 5
  | 0 => h
  | i + 1 => blm_le (nf_le h i) (by omega)
def CRd (I : tq_PI) (B : Nat → Nat) (n p : Nat) (x : Nat × Int) : Prop := CTp I B n ∧ p ≤ n ∧ I 30 8 = zI (p : Int) ∧ I 30 11 = zI (x.1 : Nat) ∧ I 30 12 = zI x.2 ∧ x.1 ≤ 5
def FU2 (I J : tq_PI) : Prop := ∀ b, b ≠ 30 → b ≠ 42 → J b = I b
theorem rg_30_5 : tq_rg 30 5 = 42 := by decide +kernel
section CL
variable {I J : tq_PI} {L : tq_PL} {B : Nat → Nat} {n p s w : Nat} {x : Nat × Int}
theorem FU2.rf : FU2 I I := fun _ _ _ => rfl
theorem FU2.tr {J K : tq_PI} (h : FU2 I J) (k : FU2 J K) : FU2 I K := fun b q r => (k b q r).trans (h b q r)
theorem FU2.up {j : Nat} {y : Int32} : FU2 I (tq_up2 I 30 j y) := fun b q _ => up_row q
theorem FU2.up42 {j : Nat} {y : Int32} : FU2 I (tq_up2 I 42 j y) := fun b _ q => up_row q
theorem FT.fu (F : FT I J) : FU2 I J := fun b q _ => funext fun j => F b j (Or.inl q)
theorem CTp.any (C : CTp I B n) (h7 : J 30 7 = I 30 7) (h31 : J 31 = I 31) : CTp J B n := ⟨C.1, by rw [h7]; exact C.2.1, fun i hi => by rw [h31]; exact C.2.2 i hi⟩
theorem c_blame (C : CRd I B n p x) (k q : Nat) (hk : k ≤ 5) : ∃ J, FX7_blame I L 30 (zI (k : Int)) (zI (q : Int)) = J ∧ CRd J B n p (blm x false k q) ∧ FU2 I J ∧ J 30 9 = I 30 9 ∧ J 42 = I 42 := by
  obtain ⟨c1, c2, c3, c4, c5, c6⟩ := C
  unfold FX7_blame blm
  by_cases h : x.1 = 0
  · rw [if_pos (by rw [c4, h]; rfl), if_pos ⟨h, rfl⟩]
    refine ⟨_, rfl, ⟨c1.any (by rw [up_n _ _ (by omega), up_n _ _ (by omega)]) (by rw [up_row (by omega), up_row (by omega)]), c2, by rw [up_n _ _ (by omega), up_n _ _ (by omega)]; exact c3, by rw [up_n _ _ (by omega), up_s], by rw [up_s], hk⟩, FU2.up.tr FU2.up, by rw [up_n _ _ (by omega), up_n _ _ (by omega)], by rw [up_row (by omega), up_row (by omega)]⟩
  · rw [if_neg (by rw [c4, show (0 : Int32) = zI 0 from rfl, zI_eq (by omega) (by omega)]; omega), if_neg (fun g => h g.1)]
    exact ⟨I, rfl, ⟨c1, c2, c3, c4, c5, c6⟩, FU2.rf, rfl, rfl⟩
theorem CRd.ft (C : CRd I B n p x) (F : FT I J) {e : Nat} (he : e ≤ n) (h8 : J 30 8 = zI (e : Int)) : CRd J B n e x := by
  obtain ⟨c1, c2, c3, c4, c5, c6⟩ := C
  exact ⟨c1.ft F, he, h8, by rw [F _ _ (by omega)]; exact c4, by rw [F _ _ (by omega)]; exact c5, c6⟩
theorem CRd.u42 (C : CRd I B n p x) {j : Nat} {y : Int32} : CRd (tq_up2 I 42 j y) B n p x := by
  obtain ⟨c1, c2, c3, c4, c5, c6⟩ := C
  exact ⟨c1.any (by rw [up_n _ _ (by omega)]) (by rw [up_row (by omega)]), c2, by rw [up_n _ _ (by omega)]; exact c3, by rw [up_n _ _ (by omega)]; exact c4, by rw [up_n _ _ (by omega)]; exact c5, c6⟩
theorem c_mayBe {i v : Nat} (hs : s < 4) (hw : w ≤ 5) (hi : i < 3) (hv : v ≤ 99) (h10 : I 30 10 = zI (v : Int)) : FX7_mayBe I L 30 (zI (s : Int)) (zI (w : Int)) (zI (i : Int)) = nok s w i v := by
  have es : ∀ c : Nat, c < 100 → ((zI (s : Int) = zI (c : Int)) = (s = c)) := fun c hc => by rw [zI_eq (by omega) (by omega)]; apply propext; omega
  have ew : ∀ c : Nat, c < 100 → ((zI (w : Int) = zI (c : Int)) = (w = c)) := fun c hc => by rw [zI_eq (by omega) (by omega)]; apply propext; omega
  have ei : ∀ c : Nat, c < 100 → ((zI (i : Int) = zI (c : Int)) = (i = c)) := fun c hc => by rw [zI_eq (by omega) (by omega)]; apply propext; omega
  have l1 : ∀ c : Nat, c < 100 → ((zI (v : Int) < zI (c : Int)) = (v < c)) := fun c hc => by rw [zI_lt (by omega) (by omega)]; apply propext; omega
  have l2 : ∀ c : Nat, c < 100 → ((zI (c : Int) < zI (v : Int)) = (c < v)) := fun c hc => by rw [zI_lt (by omega) (by omega)]; apply propext; omega
  have l3 : ∀ c : Nat, c < 100 → ((zI (c : Int) ≤ zI (v : Int)) = (c ≤ v)) := fun c hc => by rw [zI_le (by omega) (by omega)]; apply propext; omega
  have s0 : (zI (s : Int) = (0 : Int32)) = (s = 0) := es 0 (by omega)
  have s1 : (zI (s : Int) = (1 : Int32)) = (s = 1) := es 1 (by omega)
  have s3 : (zI (s : Int) = (3 : Int32)) = (s = 3) := es 3 (by omega)
  have w5 : (zI (w : Int) = (5 : Int32)) = (w = 5) := ew 5 (by omega)
  have w3 : (zI (w : Int) = (3 : Int32)) = (w = 3) := ew 3 (by omega)
  have i0 : (zI (i : Int) = (0 : Int32)) = (i = 0) := ei 0 (by omega)
  have i2 : (zI (i : Int) = (2 : Int32)) = (i = 2) := ei 2 (by omega)
  have v2 : (zI (v : Int) < (2 : Int32)) = (v < 2) := l1 2 (by omega)
  have v8 : ((8 : Int32) < zI (v : Int)) = (8 < v) := l2 8 (by omega)
  have v6 : ((6 : Int32) < zI (v : Int)) = (6 < v) := l2 6 (by omega)
  have v9 : ((9 : Int32) < zI (v : Int)) = (9 < v) := l2 9 (by omega)
  have v20 : ((20 : Int32) < zI (v : Int)) = (20 < v) := l2 20 (by omega)
  have u8 : ((8 : Int32) ≤ zI (v : Int)) = (8 ≤ v) := l3 8 (by omega)
  have u6 : ((6 : Int32) ≤ zI (v : Int)) = (6 ≤ v) := l3 6 (by omega)
  unfold FX7_mayBe FX7_mayBe_j39 FX7_mayBe_j46 FX7_mayBe_j48 FX7_mayBe_j73 FX7_mayBe_j108 nok nlo nhi
  simp only [h10, s0, s1, s3, w5, w3, i0, i2, v2, v8, v6, v9, v20, u8, u6]
  clear es ew ei l1 l2 l3 s0 s1 s3 w5 w3 i0 i2 v2 v8 v6 v9 v20 u8 u6 h10
  symm
  by_cases q3 : s = 3
  · rw [if_pos q3, if_pos q3, if_neg (show ¬ (s = 0 ∧ w = 5) by omega)]
    exact decide_eq_true (by omega)
  · rw [if_neg q3, if_neg q3]
    by_cases q0 : s = 0 ∧ w = 5
    · rw [if_pos q0, if_pos q0, if_pos q0.1, if_pos q0.2]
      by_cases g : i = 0
      · rw [if_pos g, if_pos g]
        by_cases g1 : v < 2
        · rw [if_pos g1]; exact decide_eq_false (by omega)
        · rw [if_neg g1]
          by_cases g2 : 8 < v
          · rw [if_pos g2]; exact decide_eq_false (by omega)
          · rw [if_neg g2]; exact decide_eq_true (by omega)
      · rw [if_neg g, if_neg g]
        by_cases g1 : v < 2
        · rw [if_pos g1]; exact decide_eq_false (by omega)
        · rw [if_neg g1]
          by_cases g2 : 6 < v
          · rw [if_pos g2]; exact decide_eq_false (by omega)
          · rw [if_neg g2]; exact decide_eq_true (by omega)
    · rw [if_neg q0, if_neg q0]
      have j : ∀ r : Bool, ((if s = 0 then (if w = 5 then r else (if s = 1 then if w = 3 then if 20 < v then false else true else if i = 2 then if 9 < v then false else true else if i = 0 then if 8 ≤ v then false else true else if 6 ≤ v then false else true else if i = 2 then if 9 < v then false else true else if i = 0 then if 8 ≤ v then false else true else if 6 ≤ v then false else true)) else (if s = 1 then if w = 3 then if 20 < v then false else true else if i = 2 then if 9 < v then false else true else if i = 0 then if 8 ≤ v then false else true else if 6 ≤ v then false else true else if i = 2 then if 9 < v then false else true else if i = 0 then if 8 ≤ v then false else true else if 6 ≤ v then false else true)) = (if s = 1 then if w = 3 then if 20 < v then false else true else if i = 2 then if 9 < v then false else true else if i = 0 then if 8 ≤ v then false else true else if 6 ≤ v then false else true else if i = 2 then if 9 < v then false else true else if i = 0 then if 8 ≤ v then false else true else if 6 ≤ v then false else true)) := fun r => by
        by_cases g : s = 0
        · rw [if_pos g, if_neg (fun h => q0 ⟨g, h⟩)]
        · rw [if_neg g]
      rw [j]
      have e : ∀ c d : Nat, d = c + 1 → (if c < v then false else true) = decide (0 ≤ v ∧ v ≤ c) := fun c d h => by
        by_cases g : c < v
        · rw [if_pos g, decide_eq_false (by omega)]
        · rw [if_neg g, decide_eq_true (by omega)]
      have e2 : ∀ c : Nat, (if c + 1 ≤ v then false else true) = decide (0 ≤ v ∧ v ≤ c) := fun c => by
        by_cases g : c + 1 ≤ v
        · rw [if_pos g, decide_eq_false (by omega)]
        · rw [if_neg g, decide_eq_true (by omega)]
      have t : decide (0 ≤ v ∧ v ≤ if i = 2 then 9 else if i = 0 then 7 else 5) = (if i = 2 then if 9 < v then false else true else if i = 0 then if 8 ≤ v then false else true else if 6 ≤ v then false else true) := by
        rw [e 9 10 rfl, e2 7, e2 5]
        by_cases g : i = 2
        · rw [if_pos g, if_pos g]
        · rw [if_neg g, if_neg g]
          by_cases g1 : i = 0
          · rw [if_pos g1, if_pos g1]
          · rw [if_neg g1, if_neg g1]
      by_cases q1 : s = 1
      · rw [if_pos q1]
        by_cases g : w = 3
        · rw [if_pos ⟨q1, g⟩, if_pos g, e 20 21 rfl]
        · rw [if_neg (fun h => g h.2), if_neg g, t]
      · rw [if_neg (fun h => q1 h.1), if_neg q1, t]
theorem c_nums {m : Nat} (hs : s < 4) (hw : w ≤ 5) (hm : m ≤ 3) (C : CRd I B n p x) : (∃ J, tq_it (fun q : Int32 × tq_PI => FX7_readLine_s26 q.2 L 30 (zI (s : Int)) (zI (w : Int)) (zI (m : Int)) q.1) tq_N ((0 : Int32), I) = some (.inl J) ∧ CRd J B n (pp B n p m) (nf B n p s w x m) ∧ (∀ j, j < m → tK B n (pp B n p j) = 2 ∧ J 42 j = zI (tN B n (pp B n p j) : Nat)) ∧ FU2 I J) ∨ ∃ J i, tq_it (fun q : Int32 × tq_PI => FX7_readLine_s26 q.2 L 30 (zI (s : Int)) (zI (w : Int)) (zI (m : Int)) q.1) tq_N ((0 : Int32), I) = some (.inr (false, J, L)) ∧ i < m ∧ (∀ j, j < i → tK B n (pp B n p j) = 2) ∧ tK B n (pp B n p i) ≠ 2 ∧ J 30 9 = zI (tS B n (pp B n p i) : Nat) ∧ FU2 I J := by
  have c600 := C.1.1
  obtain ⟨out, e, ho⟩ := it_for (f := fun q : Int32 × tq_PI => FX7_readLine_s26 q.2 L 30 (zI (s : Int)) (zI (w : Int)) (zI (m : Int)) q.1) (fun i (J : tq_PI) => (zI (i : Int), J)) m (fun i J => CRd J B n (pp B n p i) (nf B n p s w x i) ∧ (∀ j, j < i → tK B n (pp B n p j) = 2 ∧ J 42 j = zI (tN B n (pp B n p j) : Nat)) ∧ FU2 I J) (Post := fun out : tq_PI ⊕ (Bool × tq_PI × tq_PL) => (∃ J, out = .inl J ∧ CRd J B n (pp B n p m) (nf B n p s w x m) ∧ (∀ j, j < m → tK B n (pp B n p j) = 2 ∧ J 42 j = zI (tN B n (pp B n p j) : Nat)) ∧ FU2 I J) ∨ ∃ J i, out = .inr (false, J, L) ∧ i < m ∧ (∀ j, j < i → tK B n (pp B n p j) = 2) ∧ tK B n (pp B n p i) ≠ 2 ∧ J 30 9 = zI (tS B n (pp B n p i) : Nat) ∧ FU2 I J) (fun i J hi hJ => by
    obtain ⟨C2, V, F⟩ := hJ
    obtain ⟨J1, e1, F1, j8, j9, jn⟩ := c_next (L := L) C2.1 C2.2.1 C2.2.2.1
    have kl4 := tK_le (B := B) (n := n) (p := pp B n p i)
    dsimp only
    unfold FX7_readLine_s26 FX7_readLine_j83L26
    rw [if_neg (by rw [zI_le (by omega) (by omega)]; omega), if_neg (by rw [zI_lit, zI_le (by omega) (by omega)]; omega), e1, obind]
    by_cases g : tK B n (pp B n p i) = 2
    · have vl := tN_le g
      have j10 := jn g
      have C3 := C2.ft F1 (tE_le C2.2.1) j8
      have C4 := C3.u42 (j := i) (y := J1 30 10)
      have m1 := c_mayBe (I := tq_up2 J1 42 i (J1 30 10)) (L := L) hs hw (show i < 3 by omega) vl (by rw [up_n _ _ (by omega)]; exact j10)
      have V3 : ∀ K : tq_PI, K 42 = (tq_up2 J1 42 i (J1 30 10)) 42 → ∀ j, j < i + 1 → tK B n (pp B n p j) = 2 ∧ K 42 j = zI (tN B n (pp B n p j) : Nat) := fun K hK j hj => by
        rw [hK]
        by_cases q : j = i
        · subst q; rw [up_s]; exact ⟨g, j10⟩
        · rw [up_n _ _ (by omega), F1 _ _ (by omega)]; exact V j (by omega)
      have F4 := (F.tr F1.fu).tr (FU2.up42 (j := i) (y := J1 30 10))
      have en : (zI (i : Int)).toNatClampNeg = i := by rw [zI_cl (by omega), Int.toNat_natCast]
      have ef : nf B n p s w x (i + 1) = blm (nf B n p s w x i) (nok s w i (tN B n (pp B n p i))) 2 (tS B n (pp B n p i)) := rfl
      rw [if_pos (by rw [g]; rfl), if_pos ⟨by rw [show (0 : Int32) = zI 0 from rfl, zI_le (by omega) (by omega)]; omega, by rw [zI_lit, zI_lt (by omega) (by omega)]; omega⟩, rg_30_5, zlet, en, m1, z_suc]
      cases ok : nok s w i (tN B n (pp B n p i))
      · rw [if_pos (show tq_b false = 0 from rfl), zlet]
        obtain ⟨K, eK, CK, FK2, -, K42⟩ := c_blame (L := L) C4 2 (tS B n (pp B n p i)) (by omega)
        have e9 : (tq_up2 J1 42 i (J1 30 10)) 30 9 = zI (tS B n (pp B n p i) : Nat) := by rw [up_n _ _ (by omega)]; exact j9
        rw [e9, show FX7_blame (tq_up2 J1 42 i (J1 30 10)) L 30 (2 : Int32) (zI (tS B n (pp B n p i) : Nat)) = K from eK]
        refine Or.inl ⟨K, rfl, ?_, V3 K K42, F4.tr FK2⟩
        rw [ef, ok]
        exact CK
      · rw [if_neg tb1]
        refine Or.inl ⟨_, rfl, ?_, V3 _ rfl, F4⟩
        rw [ef, ok]
        unfold blm
        rw [if_neg (by simp)]
        exact C4
    · rw [if_neg (by rw [zI_lit, zI_eq (by omega) (by omega)]; omega)]
      exact Or.inr ⟨_, rfl, Or.inr ⟨J1, i, rfl, hi, fun j hj => (V j hj).1, g, j9, F.tr F1.fu⟩⟩) (fun J hJ => by
    refine ⟨.inl J, ?_, Or.inl ⟨J, rfl, hJ⟩⟩
    dsimp only
    unfold FX7_readLine_s26
    rw [if_pos (by rw [zI_le (by omega) (by omega)]; omega)]) 0 I (by omega) (by omega) ⟨C, fun j hj => by omega, FU2.rf⟩
  have e' : tq_it (fun q : Int32 × tq_PI => FX7_readLine_s26 q.2 L 30 (zI (s : Int)) (zI (w : Int)) (zI (m : Int)) q.1) tq_N ((0 : Int32), I) = some out := e
  rw [e']
  rcases ho with ⟨J, rfl, h⟩ | ⟨J, i, rfl, h⟩
  · exact Or.inl ⟨J, rfl, h⟩
  · exact Or.inr ⟨J, i, rfl, h⟩
theorem c_numbersOf (I : tq_PI) (L : tq_PL) (hs : s < 4) (hw : w ≤ 5) : FX7_numbersOf I L (zI (s : Int)) (zI (w : Int)) = zI (nmn s w : Nat) := by
  have es : ∀ c : Nat, c < 100 → ((zI (s : Int) = zI (c : Int)) = (s = c)) := fun c hc => by rw [zI_eq (by omega) (by omega)]; apply propext; omega
  have s1 : (zI (s : Int) = (1 : Int32)) = (s = 1) := es 1 (by omega)
  have s2 : (zI (s : Int) = (2 : Int32)) = (s = 2) := es 2 (by omega)
  have s3 : (zI (s : Int) = (3 : Int32)) = (s = 3) := es 3 (by omega)
  have w3 : (zI (w : Int) = (3 : Int32)) = (w = 3) := by rw [zI_lit, zI_eq (by omega) (by omega)]; apply propext; omega
  unfold FX7_numbersOf FX7_numbersOf_j22 FX7_numbersOf_j26 nmn
  simp only [s1, s2, s3, w3]
  by_cases q2 : s = 2
  · rw [if_pos q2, if_pos q2]; rfl
  · rw [if_neg q2, if_neg q2]
    by_cases q3 : s = 3
    · rw [if_pos q3, if_pos q3]; rfl
    · rw [if_neg q3, if_neg q3]
      by_cases q1 : s = 1
      · rw [if_pos q1]
        by_cases g : w = 3
        · rw [if_pos g, if_pos ⟨q1, g⟩]; rfl
        · rw [if_neg g, if_neg (fun h => g h.2)]; rfl
      · rw [if_neg q1, if_neg (fun h => q1 h.1)]; rfl
theorem nmn_le : nmn s w ≤ 3 := by unfold nmn; split; · omega
                                   · split; · omega
                                     · split <;> omega
theorem c_line17 (hs : s < 4) (hw : w ≤ 5) (C : CRd I B n p x) : (okl B n p (nmn s w) ∧ ∃ J, FX7_readLine_j17 I L 30 (zI (s : Int)) (zI (w : Int)) = (FX7_tell J L 30 (zI (s : Int)) (zI (w : Int))).bind (fun r => some (true, r.1, r.2)) ∧ CRd J B n (tE B n (pp B n p (nmn s w))) (nf B n p s w x (nmn s w)) ∧ (∀ j, j < nmn s w → J 42 j = zI (tN B n (pp B n p j) : Nat)) ∧ FU2 I J) ∨ ∃ J q, FX7_readLine_j17 I L 30 (zI (s : Int)) (zI (w : Int)) = some (false, J, L) ∧ erl B n p (nmn s w) q ∧ J 30 9 = zI (q : Int) ∧ FU2 I J := by
  have m3 := nmn_le (s := s) (w := w)
  unfold FX7_readLine_j17
  rw [c_numbersOf I L hs hw, zlet]
  rcases c_nums (L := L) hs hw m3 C with ⟨J, e, C2, V, F⟩ | ⟨J, i, e, i1, i2, i3, j9, F⟩
  · obtain ⟨J1, e1, F1, j8, j9, -⟩ := c_next (L := L) C2.1 C2.2.1 C2.2.2.1
    have kl4 := tK_le (B := B) (n := n) (p := pp B n p (nmn s w))
    rw [e, obind]
    have el : ∀ (a : tq_PI) (f : tq_PI → Option (Bool × tq_PI × tq_PL)) (g : (Bool × tq_PI × tq_PL) → Option (Bool × tq_PI × tq_PL)), Sum.elim f g (Sum.inl a) = f a := fun _ _ _ => rfl
    rw [el, e1, obind]
    by_cases g : tK B n (pp B n p (nmn s w)) = 3
    · refine Or.inl ⟨⟨fun j hj => (V j hj).1, g⟩, J1, ?_, C2.ft F1 (tE_le C2.2.1) j8, fun j hj => ?_, F.tr F1.fu⟩
      · rw [if_pos (by rw [g]; rfl)]
      · rw [F1 _ _ (by omega)]; exact (V j hj).2
    · refine Or.inr ⟨J1, tS B n (pp B n p (nmn s w)), ?_, ⟨nmn s w, Nat.le_refl _, fun j hj => (V j hj).1, rfl, fun h => absurd h (Nat.lt_irrefl _), fun _ => g⟩, j9, F.tr F1.fu⟩
      rw [if_neg (by rw [zI_lit, zI_eq (by omega) (by omega)]; omega)]
  · refine Or.inr ⟨J, tS B n (pp B n p i), ?_, ⟨i, by omega, i2, rfl, fun _ => i3, fun h => by omega⟩, j9, F⟩
    rw [e, obind]
    rfl
end CL
