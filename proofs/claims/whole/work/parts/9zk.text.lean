/-! TEXT: tokens. -/
def isB (x : Nat) : Bool := decide (x = 10 ∨ x = 32)
def isL (x : Nat) : Bool := decide (97 ≤ x ∧ x ≤ 122)
def isDg (x : Nat) : Bool := decide (48 ≤ x ∧ x ≤ 57)
def rn (P : Nat → Bool) (B : Nat → Nat) (n : Nat) : Nat → Nat → Nat
  | 0, p => p
  | g + 1, p => if p < n ∧ P (B p) = true then rn P B n g (p + 1) else p
def ro (P : Nat → Bool) (B : Nat → Nat) (n p : Nat) : Nat := rn P B n (n - p) p
section RO
variable {P : Nat → Bool} {B : Nat → Nat} {n : Nat}
theorem ro_go {p : Nat} (h : p < n) (hp : P (B p) = true) : ro P B n p = ro P B n (p + 1) := by
  unfold ro
  rw [show n - p = (n - (p + 1)) + 1 by omega]
  show (if p < n ∧ P (B p) = true then rn P B n (n - (p + 1)) (p + 1) else p) = _
  rw [if_pos ⟨h, hp⟩]
theorem ro_st {p : Nat} (h : ¬ (p < n ∧ P (B p) = true)) : ro P B n p = p := by
  unfold ro
  cases n - p with
  | zero => rfl
  | succ g =>
    show (if p < n ∧ P (B p) = true then rn P B n g (p + 1) else p) = p
    rw [if_neg h]
theorem ro_all : ∀ (g p : Nat), n - p ≤ g → (p ≤ n → ro P B n p ≤ n) ∧ p ≤ ro P B n p ∧ (∀ i, p ≤ i → i < ro P B n p → i < n ∧ P (B i) = true) ∧ ¬ (ro P B n p < n ∧ P (B (ro P B n p)) = true)
  | g, p, h => by
    by_cases q : p < n ∧ P (B p) = true
    · cases g with
      | zero => omega
      | succ g =>
        obtain ⟨h1, h2, h3, h4⟩ := ro_all g (p + 1) (by omega)
        rw [ro_go q.1 q.2]
        refine ⟨fun _ => h1 (by omega), by omega, fun i i1 i2 => ?_, h4⟩
        by_cases e : i = p
        · rw [e]; exact q
        · exact h3 i (by omega) i2
    · rw [ro_st q]
      exact ⟨fun h => h, Nat.le_refl _, fun i h1 h2 => by omega, q⟩
theorem ro_le {p : Nat} (h : p ≤ n) : ro P B n p ≤ n := (ro_all _ p (Nat.le_refl _)).1 h
theorem ro_ge (p : Nat) : p ≤ ro P B n p := (ro_all _ p (Nat.le_refl _)).2.1
theorem ro_in {p i : Nat} (h : p ≤ i) (h2 : i < ro P B n p) : i < n ∧ P (B i) = true := (ro_all _ p (Nat.le_refl _)).2.2.1 i h h2
theorem ro_nd (p : Nat) : ¬ (ro P B n p < n ∧ P (B (ro P B n p)) = true) := (ro_all _ p (Nat.le_refl _)).2.2.2
end RO
/-- a token: where it begins, its kind, where it ends -/
def tS (B : Nat → Nat) (n p : Nat) : Nat := ro isB B n p
def tK (B : Nat → Nat) (n p : Nat) : Nat := if n ≤ tS B n p then 0 else if isL (B (tS B n p)) = true then 1 else if isDg (B (tS B n p)) = true then (if ro isDg B n (tS B n p) - tS B n p ≤ 2 then 2 else 4) else if B (tS B n p) = 59 then 3 else 4
def tE (B : Nat → Nat) (n p : Nat) : Nat := if n ≤ tS B n p then tS B n p else if isL (B (tS B n p)) = true then ro isL B n (tS B n p) else if isDg (B (tS B n p)) = true then ro isDg B n (tS B n p) else tS B n p + 1
def nv (B : Nat → Nat) (s : Nat) : Nat → Nat
  | 0 => 0
  | i + 1 => 10 * nv B s i + (B (s + i) - 48)
def tN (B : Nat → Nat) (n p : Nat) : Nat := nv B (tS B n p) (tE B n p - tS B n p)
def vv (B : Nat → Nat) (s : Nat) : Nat → Nat
  | 0 => 0
  | i + 1 => 32 * vv B s i + (B (s + i) - 96)
theorem nv_le {B : Nat → Nat} {s : Nat} : ∀ i, i ≤ 2 → (∀ j, j < i → isDg (B (s + j)) = true) → nv B s i < 10 ^ i
  | 0, _, _ => Nat.zero_lt_one
  | i + 1, h, hd => by
    have a := nv_le i (by omega) (fun j hj => hd j (by omega))
    have b := hd i (by omega)
    unfold isDg at b
    rw [decide_eq_true_eq] at b
    have e : nv B s (i + 1) = 10 * nv B s i + (B (s + i) - 48) := rfl
    rw [e, Nat.pow_succ]
    omega
section TK
variable {B : Nat → Nat} {n p : Nat}
theorem tS_ge : p ≤ tS B n p := ro_ge p
theorem tS_le (h : p ≤ n) : tS B n p ≤ n := ro_le h
theorem tE_le (h : p ≤ n) : tE B n p ≤ n := by
  have h1 := tS_le (B := B) h
  unfold tE
  split
  · exact h1
  · split
    · exact ro_le h1
    · split
      · exact ro_le h1
      · omega
theorem tE_gt (h : tK B n p ≠ 0) : tS B n p < tE B n p := by
  unfold tK at h
  by_cases q : n ≤ tS B n p
  · rw [if_pos q] at h; exact absurd rfl h
  · unfold tE
    rw [if_neg q]
    split
    · rename_i g
      rw [ro_go (by omega) g]
      exact ro_ge _
    · split
      · rename_i g
        rw [ro_go (by omega) g]
        exact ro_ge _
      · omega
theorem tK_le : tK B n p ≤ 4 := by
  unfold tK
  split
  · omega
  · split
    · omega
    · split
      · split <;> omega
      · split <;> omega
theorem tN_le (h : tK B n p = 2) : tN B n p ≤ 99 := by
  unfold tK at h
  by_cases q : n ≤ tS B n p
  · rw [if_pos q] at h; omega
  · rw [if_neg q] at h
    by_cases q1 : isL (B (tS B n p)) = true
    · rw [if_pos q1] at h; omega
    · rw [if_neg q1] at h
      by_cases q2 : isDg (B (tS B n p)) = true
      · rw [if_pos q2] at h
        by_cases q3 : ro isDg B n (tS B n p) - tS B n p ≤ 2
        · have e : tE B n p = ro isDg B n (tS B n p) := by
            unfold tE
            rw [if_neg q, if_neg q1, if_pos q2]
          have := nv_le (B := B) (s := tS B n p) (tE B n p - tS B n p) (by rw [e]; exact q3) (fun j hj => (ro_in (P := isDg) (n := n) (p := tS B n p) (by omega) (by rw [← e]; omega)).2)
          have h10 : 10 ^ (tE B n p - tS B n p) ≤ 10 ^ 2 := Nat.pow_le_pow_right (by omega) (by rw [e]; exact q3)
          unfold tN
          omega
        · rw [if_neg q3] at h; omega
      · rw [if_neg q2] at h
        split at h <;> omega
end TK
/-! the class's tokens -/
def CTp (I : tq_PI) (B : Nat → Nat) (n : Nat) : Prop := n ≤ 600 ∧ I 30 7 = zI (n : Int) ∧ ∀ i, i < n → B i < 256 ∧ I 31 i = (zI (B i : Nat)).toInt8.toInt32
theorem rg_30_0 : tq_rg 30 0 = 31 := by decide +kernel
theorem i8_255 : ∀ x : Nat, x < 256 → ((zI (x : Int)).toInt8.toInt32 &&& (255 : Int32)) = zI (x : Int) := by decide +kernel
section CN
variable {I : tq_PI} {L : tq_PL} {B : Nat → Nat} {n p : Nat}
theorem CTp.up8 (C : CTp I B n) (x : Int32) : CTp (tq_up2 I 30 8 x) B n := ⟨C.1, by rw [up_n _ _ (by omega)]; exact C.2.1, fun i hi => by rw [up_n _ _ (by omega)]; exact C.2.2 i hi⟩
theorem CTp.up9 (C : CTp I B n) (x : Int32) : CTp (tq_up2 I 30 9 x) B n := ⟨C.1, by rw [up_n _ _ (by omega)]; exact C.2.1, fun i hi => by rw [up_n _ _ (by omega)]; exact C.2.2 i hi⟩
theorem CTp.up10 (C : CTp I B n) (x : Int32) : CTp (tq_up2 I 30 10 x) B n := ⟨C.1, by rw [up_n _ _ (by omega)]; exact C.2.1, fun i hi => by rw [up_n _ _ (by omega)]; exact C.2.2 i hi⟩
theorem c_byte (C : CTp I B n) (hp : p < n) : FX7_byteAt I L 30 (zI (p : Int)) = some (zI (B p : Nat)) := by
  obtain ⟨c1, c2, c3⟩ := C
  obtain ⟨b1, b2⟩ := c3 p hp
  unfold FX7_byteAt
  rw [c2, if_neg (by rw [show (0 : Int32) = zI 0 from rfl, zI_lt (by omega) (by omega)]; omega), if_neg (by rw [zI_le (by omega) (by omega)]; omega), if_pos (by rw [zI_lit, zI_lt (by omega) (by omega)]; omega), if_pos ⟨by rw [show (0 : Int32) = zI 0 from rfl, zI_le (by omega) (by omega)]; omega, by rw [zI_lit, zI_lt (by omega) (by omega)]; omega⟩, rg_30_0, zI_cl (by omega), Int.toNat_natCast, b2, i8_255 _ b1]
theorem c_blank (I : tq_PI) (L : tq_PL) {x : Nat} (hx : x < 256) : FX7_isBlank I L (zI (x : Int)) = isB x := by
  unfold FX7_isBlank FX7_isBlank_j12 isB
  by_cases q : x = 10
  · rw [if_pos (by rw [zI_lit, zI_eq (by omega) (by omega)]; omega), decide_eq_true (Or.inl q)]
  · rw [if_neg (by rw [zI_lit, zI_eq (by omega) (by omega)]; omega)]
    by_cases r : x = 32
    · rw [if_pos (by rw [zI_lit, zI_eq (by omega) (by omega)]; omega), decide_eq_true (Or.inr r)]
    · rw [if_neg (by rw [zI_lit, zI_eq (by omega) (by omega)]; omega), decide_eq_false (by omega)]
theorem c_letter (I : tq_PI) (L : tq_PL) {x : Nat} (hx : x < 256) : FX7_isLetter I L (zI (x : Int)) = isL x := by
  unfold FX7_isLetter FX7_isLetter_j16 isL
  by_cases q : x < 97
  · rw [if_pos (by rw [zI_lit, zI_lt (by omega) (by omega)]; omega), decide_eq_false (by omega)]
  · rw [if_neg (by rw [zI_lit, zI_lt (by omega) (by omega)]; omega)]
    by_cases r : 122 < x
    · rw [if_pos (by rw [zI_lit, zI_lt (by omega) (by omega)]; omega), decide_eq_false (by omega)]
    · rw [if_neg (by rw [zI_lit, zI_lt (by omega) (by omega)]; omega), decide_eq_true (by omega)]
theorem c_digit (I : tq_PI) (L : tq_PL) {x : Nat} (hx : x < 256) : FX7_isDigit I L (zI (x : Int)) = isDg x := by
  unfold FX7_isDigit FX7_isDigit_j16 isDg
  by_cases q : x < 48
  · rw [if_pos (by rw [zI_lit, zI_lt (by omega) (by omega)]; omega), decide_eq_false (by omega)]
  · rw [if_neg (by rw [zI_lit, zI_lt (by omega) (by omega)]; omega)]
    by_cases r : 57 < x
    · rw [if_pos (by rw [zI_lit, zI_lt (by omega) (by omega)]; omega), decide_eq_false (by omega)]
    · rw [if_neg (by rw [zI_lit, zI_lt (by omega) (by omega)]; omega), decide_eq_true (by omega)]
theorem z_suc (p : Nat) : zI (p : Int) + (1 : Int32) = zI ((p + 1 : Nat) : Int) := by rw [show (1 : Int32) = zI 1 from rfl, zI_add]; rfl
theorem c_s0 (C : CTp I B n) (hp : p ≤ n) (h8 : I 30 8 = zI (p : Int)) : tq_it (fun q : tq_PI => FX7_next_s0 q L 30) tq_N I = some (tq_up2 I 30 8 (zI (ro isB B n p : Nat))) := by
  have c1 := C.1
  obtain ⟨b, e, rfl⟩ := it_w (f := fun q : tq_PI => FX7_next_s0 q L 30) (fun a => ∃ q : Nat, q ≤ n ∧ a = tq_up2 I 30 8 (zI (q : Int)) ∧ ro isB B n q = ro isB B n p) (fun a => n - (a 30 8).toNatClampNeg) (Post := fun b => b = tq_up2 I 30 8 (zI (ro isB B n p : Nat))) (fun a ha => by
    obtain ⟨q, hq, rfl, er⟩ := ha
    have C2 := C.up8 (zI (q : Int))
    unfold FX7_next_s0
    rw [C2.2.1, up_s]
    by_cases g : q < n
    · obtain ⟨b1, -⟩ := C.2.2 q g
      rw [if_neg (by rw [zI_le (by omega) (by omega)]; omega), c_byte C2 g, obind, zlet, c_blank _ _ b1]
      cases eb : isB (B q)
      · rw [if_pos (show tq_b false = 0 from rfl)]
        refine Or.inr ⟨_, rfl, ?_⟩
        rw [← er, ro_st (by rw [eb]; simp)]
      · rw [if_neg tb1, up_up, z_suc]
        refine Or.inl ⟨_, rfl, ?_, q + 1, by omega, rfl, by rw [← er, ro_go g eb]⟩
        rw [up_s, zI_cl (by omega), zI_cl (by omega)]
        omega
    · rw [if_pos (by rw [zI_le (by omega) (by omega)]; omega)]
      refine Or.inr ⟨_, rfl, ?_⟩
      rw [← er, ro_st (fun h => g h.1)]) I (by omega) ⟨p, hp, by rw [← h8, up_id], rfl⟩
  exact e
theorem c_s75 (C : CTp I B n) (hp : p ≤ n) (h8 : I 30 8 = zI (p : Int)) : tq_it (fun q : tq_PI => FX7_next_s75 q L 30) tq_N I = some (tq_up2 I 30 8 (zI (ro isL B n p : Nat))) := by
  have c1 := C.1
  obtain ⟨b, e, rfl⟩ := it_w (f := fun q : tq_PI => FX7_next_s75 q L 30) (fun a => ∃ q : Nat, q ≤ n ∧ a = tq_up2 I 30 8 (zI (q : Int)) ∧ ro isL B n q = ro isL B n p) (fun a => n - (a 30 8).toNatClampNeg) (Post := fun b => b = tq_up2 I 30 8 (zI (ro isL B n p : Nat))) (fun a ha => by
    obtain ⟨q, hq, rfl, er⟩ := ha
    have C2 := C.up8 (zI (q : Int))
    unfold FX7_next_s75
    rw [C2.2.1, up_s]
    by_cases g : q < n
    · obtain ⟨b1, -⟩ := C.2.2 q g
      rw [if_neg (by rw [zI_le (by omega) (by omega)]; omega), c_byte C2 g, obind, zlet, c_letter _ _ b1]
      cases eb : isL (B q)
      · rw [if_pos (show tq_b false = 0 from rfl)]
        refine Or.inr ⟨_, rfl, ?_⟩
        rw [← er, ro_st (by rw [eb]; simp)]
      · rw [if_neg tb1, up_up, z_suc]
        refine Or.inl ⟨_, rfl, ?_, q + 1, by omega, rfl, by rw [← er, ro_go g eb]⟩
        rw [up_s, zI_cl (by omega), zI_cl (by omega)]
        omega
    · rw [if_pos (by rw [zI_le (by omega) (by omega)]; omega)]
      refine Or.inr ⟨_, rfl, ?_⟩
      rw [← er, ro_st (fun h => g h.1)]) I (by omega) ⟨p, hp, by rw [← h8, up_id], rfl⟩
  exact e
/-- what a token changes in the class's reader -/
def FT (I J : tq_PI) : Prop := ∀ b j, (b ≠ 30 ∨ (j ≠ 8 ∧ j ≠ 9 ∧ j ≠ 10)) → J b j = I b j
theorem FT.rf : FT I I := fun _ _ _ => rfl
theorem FT.tr {J K : tq_PI} (h : FT I J) (k : FT J K) : FT I K := fun b j q => (k b j q).trans (h b j q)
theorem FT.up {j : Nat} {x : Int32} (hj : j = 8 ∨ j = 9 ∨ j = 10) : FT I (tq_up2 I 30 j x) := fun b i q => by rw [up_n _ _ (by omega)]
theorem CTp.ft {J : tq_PI} (C : CTp I B n) (F : FT I J) : CTp J B n := ⟨C.1, by rw [F _ _ (by omega)]; exact C.2.1, fun i hi => by rw [F _ _ (by omega)]; exact C.2.2 i hi⟩
theorem c_tnum {s : Nat} (C : CTp I B n) (hs : s < n) (h8 : I 30 8 = zI (s : Int)) (h9 : I 30 9 = zI (s : Int)) : ∃ J, FX7_nextNumber I L 30 = some ((if ro isDg B n s - s ≤ 2 then (2 : Int32) else 4), J) ∧ FT I J ∧ J 30 8 = zI (ro isDg B n s : Nat) ∧ J 30 9 = zI (s : Int) ∧ (ro isDg B n s - s ≤ 2 → J 30 10 = zI (nv B s (ro isDg B n s - s) : Nat)) := by
  have c1 := C.1
  have sg := ro_ge (P := isDg) (B := B) (n := n) s
  have sl := ro_le (P := isDg) (B := B) (n := n) (Nat.le_of_lt hs)
  obtain ⟨J, e, F, j8, j9, jn⟩ := it_w (f := fun q : tq_PI => FX7_nextNumber_s5 q L 30) (fun a => ∃ i : Nat, s + i ≤ ro isDg B n s ∧ FT I a ∧ a 30 8 = zI ((s + i : Nat) : Int) ∧ a 30 9 = zI (s : Int) ∧ ro isDg B n (s + i) = ro isDg B n s ∧ (i ≤ 2 → a 30 10 = zI (nv B s i : Nat))) (fun a => n - (a 30 8).toNatClampNeg) (Post := fun J => FT I J ∧ J 30 8 = zI (ro isDg B n s : Nat) ∧ J 30 9 = zI (s : Int) ∧ (ro isDg B n s - s ≤ 2 → J 30 10 = zI (nv B s (ro isDg B n s - s) : Nat))) (fun a ha => by
    obtain ⟨i, hi, F, a8, a9, er, an⟩ := ha
    have C2 := C.ft F
    have fin : ¬ (s + i < n ∧ isDg (B (s + i)) = true) → FT I a ∧ a 30 8 = zI (ro isDg B n s : Nat) ∧ a 30 9 = zI (s : Int) ∧ (ro isDg B n s - s ≤ 2 → a 30 10 = zI (nv B s (ro isDg B n s - s) : Nat)) := fun g => by
      rw [ro_st g] at er
      refine ⟨F, by rw [← er]; exact a8, a9, fun h => ?_⟩
      rw [← er, Nat.add_sub_cancel_left]
      exact an (by omega)
    unfold FX7_nextNumber_s5
    rw [C2.2.1, a8, a9]
    by_cases g : s + i < n
    · obtain ⟨b1, -⟩ := C.2.2 _ g
      rw [if_neg (by rw [zI_le (by omega) (by omega)]; omega), c_byte C2 g, obind, zlet, c_digit _ _ b1]
      cases eb : isDg (B (s + i))
      · rw [if_pos (show tq_b false = 0 from rfl)]
        exact Or.inr ⟨_, rfl, fin (by rw [eb]; simp)⟩
      · have er2 : ro isDg B n (s + (i + 1)) = ro isDg B n s := by rw [← er, ro_go g eb]; rfl
        have hi2 : s + (i + 1) ≤ ro isDg B n s := by rw [← er2]; exact ro_ge _
        have go : ∀ x : Int32, (i + 1 ≤ 2 → x = zI (nv B s (i + 1) : Nat)) → ∃ a2, FX7_nextNumber_j67L5 a L 30 x 30 = some (.inl a2) ∧ n - (a2 30 8).toNatClampNeg < n - (a 30 8).toNatClampNeg ∧ ∃ i : Nat, s + i ≤ ro isDg B n s ∧ FT I a2 ∧ a2 30 8 = zI ((s + i : Nat) : Int) ∧ a2 30 9 = zI (s : Int) ∧ ro isDg B n (s + i) = ro isDg B n s ∧ (i ≤ 2 → a2 30 10 = zI (nv B s i : Nat)) := fun x hx => by
          have e8 : (tq_up2 a 30 10 x) 30 8 + (1 : Int32) = zI ((s + (i + 1) : Nat) : Int) := by rw [up_n _ _ (by omega), a8, z_suc]; rfl
          refine ⟨_, rfl, ?_, i + 1, hi2, (F.tr (FT.up (by omega))).tr (FT.up (by omega)), ?_, ?_, er2, fun h => ?_⟩
          · rw [up_s, e8, a8, zI_cl (by omega), zI_cl (by omega)]; omega
          · rw [up_s, e8]
          · rw [up_n _ _ (by omega), up_n _ _ (by omega)]; exact a9
          · rw [up_n _ _ (by omega), up_s]; exact hx h
        rw [if_neg tb1, zI_sub]
        by_cases g2 : 2 ≤ i
        · rw [if_pos (by rw [zI_lit, zI_le (by omega) (by omega)]; omega)]
          obtain ⟨a2, h1, h2, h3⟩ := go 0 (fun h => by omega)
          exact Or.inl ⟨a2, h1, by rw [a8] at h2; exact h2, h3⟩
        · rw [if_neg (by rw [zI_lit, zI_le (by omega) (by omega)]; omega), obind, an (by omega)]
          have bd : 48 ≤ B (s + i) ∧ B (s + i) ≤ 57 := by unfold isDg at eb; rw [decide_eq_true_eq] at eb; exact eb
          obtain ⟨a2, h1, h2, h3⟩ := go ((10 : Int32) * zI (nv B s i : Nat) + zI (B (s + i) : Nat) - (48 : Int32)) (fun h => by
            have e1 : nv B s (i + 1) = 10 * nv B s i + (B (s + i) - 48) := rfl
            rw [e1, zI_lit, zI_lit, zI_mul, zI_add, zI_sub]
            congr 1
            omega)
          exact Or.inl ⟨a2, h1, by rw [a8] at h2; exact h2, h3⟩
    · rw [if_pos (by rw [zI_le (by omega) (by omega)]; omega)]
      exact Or.inr ⟨_, rfl, fin (fun h => g h.1)⟩) (tq_up2 I 30 10 (0 : Int32)) (by omega) ⟨0, sg, FT.up (by omega), by rw [up_n _ _ (by omega)]; exact h8, by rw [up_n _ _ (by omega)]; exact h9, rfl, fun _ => by rw [up_s]; rfl⟩
  refine ⟨J, ?_, F, j8, j9, jn⟩
  unfold FX7_nextNumber
  rw [e, obind, j8, j9, zI_sub]
  by_cases g : ro isDg B n s - s ≤ 2
  · rw [if_pos g, if_pos (by rw [zI_lit, zI_le (by omega) (by omega)]; omega)]
  · rw [if_neg g, if_neg (by rw [zI_lit, zI_le (by omega) (by omega)]; omega)]
theorem c_next (C : CTp I B n) (hp : p ≤ n) (h8 : I 30 8 = zI (p : Int)) : ∃ J, FX7_next I L 30 = some (zI (tK B n p : Nat), J) ∧ FT I J ∧ J 30 8 = zI (tE B n p : Nat) ∧ J 30 9 = zI (tS B n p : Nat) ∧ (tK B n p = 2 → J 30 10 = zI (tN B n p : Nat)) := by
  have c1 := C.1
  have e0 := c_s0 (L := L) C hp h8
  have sl := tS_le (B := B) hp
  have eS : ro isB B n p = tS B n p := rfl
  rw [eS] at e0
  obtain ⟨s, hs⟩ : ∃ s, s = tS B n p := ⟨_, rfl⟩
  obtain ⟨X, hX⟩ : ∃ X, X = tq_up2 (tq_up2 I 30 8 (zI (s : Int))) 30 9 (zI (s : Int)) := ⟨_, rfl⟩
  have FX : FT I X := by rw [hX]; exact (FT.up (by omega)).tr (FT.up (by omega))
  have CX := C.ft FX
  have x8 : X 30 8 = zI (s : Int) := by rw [hX, up_n _ _ (by omega), up_s]
  have x9 : X 30 9 = zI (s : Int) := by rw [hX, up_s]
  unfold FX7_next
  rw [e0, obind, up_s, ← hs, ← hX, x8, CX.2.1]
  unfold tK tE tN tE
  rw [← hs] at sl ⊢
  by_cases g : n ≤ s
  · rw [if_neg (by rw [zI_lt (by omega) (by omega)]; omega), if_pos g, if_pos g]
    exact ⟨X, rfl, FX, x8, x9, fun h => by omega⟩
  · obtain ⟨b1, -⟩ := C.2.2 s (by omega)
    rw [if_pos (by rw [zI_lt (by omega) (by omega)]; omega), c_byte CX (by omega), obind, zlet, c_letter _ _ b1, if_neg g, if_neg g]
    cases el : isL (B s)
    · rw [if_pos (show tq_b false = 0 from rfl), zlet, c_digit _ _ b1, if_neg (show ¬ false = true by simp), if_neg (show ¬ false = true by simp)]
      cases ed : isDg (B s)
      · rw [if_pos (show tq_b false = 0 from rfl), if_neg (show ¬ false = true by simp), if_neg (show ¬ false = true by simp), z_suc]
        by_cases g2 : B s = 59
        · rw [if_pos (by rw [g2]; rfl), if_pos g2]
          exact ⟨_, rfl, FX.tr (FT.up (by omega)), by rw [up_s], by rw [up_n _ _ (by omega)]; exact x9, fun h => by omega⟩
        · rw [if_neg (by rw [zI_lit, zI_eq (by omega) (by omega)]; omega), if_neg g2]
          exact ⟨_, rfl, FX.tr (FT.up (by omega)), by rw [up_s], by rw [up_n _ _ (by omega)]; exact x9, fun h => by omega⟩
      · obtain ⟨J, eJ, FJ, j8, j9, jn⟩ := c_tnum (L := L) CX (s := s) (by omega) x8 x9
        rw [if_neg tb1, if_pos rfl, if_pos rfl, eJ, obind]
        by_cases g2 : ro isDg B n s - s ≤ 2
        · rw [if_pos g2, if_pos g2]
          exact ⟨J, rfl, FX.tr FJ, j8, j9, fun _ => jn g2⟩
        · rw [if_neg g2, if_neg g2]
          exact ⟨J, rfl, FX.tr FJ, j8, j9, fun h => by omega⟩
    · rw [if_neg tb1, if_pos rfl, if_pos rfl, c_s75 CX (by omega) x8, obind]
      exact ⟨_, rfl, FX.tr (FT.up (by omega)), by rw [up_s], by rw [up_n _ _ (by omega)]; exact x9, fun h => by omega⟩
end CN
