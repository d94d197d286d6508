/-! TEXT: words. -/
def wln (k : Nat) : Nat := tq_lJ.getD k 0
def wch (k i : Nat) : Nat := ((tq_bJ.getD k []).getD i 0).toNatClampNeg
def wcd (l v : Nat) : Nat := if 8 < l then 99 else if v = 632645 then 1 else if v = 1330 then 2 else if v = 3409291 then 3 else if v = 437848453 then 4 else if v = 8121689733 then 5 else if v = 543216 then 6 else if v = 15190664 then 7 else if v = 20436616 then 8 else if v = 12008555 then 9 else if v = 8554052 then 10 else if v = 769604 then 11 else 99
theorem w_len : ∀ k, k < 11 → 1 ≤ wln k ∧ wln k ≤ 7 := by decide +kernel
theorem w_let : ∀ k, k < 11 → ∀ i, i < 8 → i < wln k → 97 ≤ wch k i ∧ wch k i ≤ 122 := by decide +kernel
theorem w_cod : vv (wch 0) 0 (wln 0) = 632645 ∧ vv (wch 1) 0 (wln 1) = 1330 ∧ vv (wch 2) 0 (wln 2) = 3409291 ∧ vv (wch 3) 0 (wln 3) = 437848453 ∧ vv (wch 4) 0 (wln 4) = 8121689733 ∧ vv (wch 5) 0 (wln 5) = 543216 ∧ vv (wch 6) 0 (wln 6) = 15190664 ∧ vv (wch 7) 0 (wln 7) = 20436616 ∧ vv (wch 8) 0 (wln 8) = 12008555 ∧ vv (wch 9) 0 (wln 9) = 8554052 ∧ vv (wch 10) 0 (wln 10) = 769604 := by decide +kernel
theorem vv_in {B D : Nat → Nat} {s t : Nat} : ∀ l m, (∀ i, i < l → 97 ≤ B (s + i) ∧ B (s + i) ≤ 122) → (∀ i, i < m → 97 ≤ D (t + i) ∧ D (t + i) ≤ 122) → vv B s l = vv D t m → l = m ∧ ∀ i, i < l → B (s + i) = D (t + i)
  | 0, 0, _, _, _ => ⟨rfl, fun i hi => absurd hi (Nat.not_lt_zero i)⟩
  | 0, m + 1, _, hd, e => by
    have e1 : vv D t (m + 1) = 32 * vv D t m + (D (t + m) - 96) := rfl
    have e0 : vv B s 0 = 0 := rfl
    have := hd m (by omega)
    omega
  | l + 1, 0, hb, _, e => by
    have e1 : vv B s (l + 1) = 32 * vv B s l + (B (s + l) - 96) := rfl
    have e0 : vv D t 0 = 0 := rfl
    have := hb l (by omega)
    omega
  | l + 1, m + 1, hb, hd, e => by
    have e1 : vv B s (l + 1) = 32 * vv B s l + (B (s + l) - 96) := rfl
    have e2 : vv D t (m + 1) = 32 * vv D t m + (D (t + m) - 96) := rfl
    have b1 := hb l (by omega)
    have d1 := hd m (by omega)
    obtain ⟨h1, h2⟩ := vv_in l m (fun i hi => hb i (by omega)) (fun i hi => hd i (by omega)) (by omega)
    refine ⟨by omega, fun i hi => ?_⟩
    by_cases q : i = l
    · subst q
      subst h1
      omega
    · exact h2 i (by omega)
theorem vv_cg {B D : Nat → Nat} {s t : Nat} : ∀ l, (∀ i, i < l → B (s + i) = D (t + i)) → vv B s l = vv D t l
  | 0, _ => rfl
  | l + 1, h => by
    have e1 : vv B s (l + 1) = 32 * vv B s l + (B (s + l) - 96) := rfl
    have e2 : vv D t (l + 1) = 32 * vv D t l + (D (t + l) - 96) := rfl
    rw [e1, e2, vv_cg l (fun i hi => h i (by omega)), h l (by omega)]
theorem wcd_k {l v : Nat} : ∀ k, k < 11 → (wcd l v = k + 1 ↔ l ≤ 8 ∧ v = vv (wch k) 0 (wln k)) := by
  obtain ⟨c0, c1, c2, c3, c4, c5, c6, c7, c8, c9, c10⟩ := w_cod
  intro k hk
  have key : ∀ c : Nat, c = vv (wch k) 0 (wln k) → (k = 0 ∧ c = 632645 ∨ k = 1 ∧ c = 1330 ∨ k = 2 ∧ c = 3409291 ∨ k = 3 ∧ c = 437848453 ∨ k = 4 ∧ c = 8121689733 ∨ k = 5 ∧ c = 543216 ∨ k = 6 ∧ c = 15190664 ∨ k = 7 ∧ c = 20436616 ∨ k = 8 ∧ c = 12008555 ∨ k = 9 ∧ c = 8554052 ∨ k = 10 ∧ c = 769604) := fun c hc => by
    rcases (by omega : k = 0 ∨ k = 1 ∨ k = 2 ∨ k = 3 ∨ k = 4 ∨ k = 5 ∨ k = 6 ∨ k = 7 ∨ k = 8 ∨ k = 9 ∨ k = 10) with h | h | h | h | h | h | h | h | h | h | h <;> subst h <;> omega
  have kk := key _ rfl
  generalize vv (wch k) 0 (wln k) = c at kk ⊢
  clear key c0 c1 c2 c3 c4 c5 c6 c7 c8 c9 c10
  unfold wcd
  split
  · omega
  repeat' (first | omega | split)
theorem c_length (I : tq_PI) (L : tq_PL) {k : Nat} (hk : k < 11) : FJ0_length_8abf5 I L k = zI (wln k : Nat) := by
  have e : ∀ k, k < 11 → (nI (tq_lJ.getD k 0)) >>> (((if (1 : Int32) = 0 then (1 : Int32) else (0 : Int32))) &&& 31) = zI (wln k : Nat) := by decide +kernel
  exact e k hk
theorem w_narrow : ∀ k, k < 11 → ∀ i, i < 8 → i < wln k → (Int32.toUInt32 (((tq_bJ.getD k []).getD i 0) &&& (255 : Int32)) % 65536).toInt32 = zI (wch k i : Nat) ∧ narrow .char (.int (zI (wch k i : Nat))) = .int (zI (wch k i : Nat)) := by decide +kernel
theorem c_charAt (I : tq_PI) (L : tq_PL) {k i : Nat} (hk : k < 11) (hi : i < wln k) : FJ0_charAt_5068e I L k (zI (i : Int)) = some (zI (wch k i : Nat)) := by
  obtain ⟨l1, l2⟩ := w_len k hk
  obtain ⟨n1, n2⟩ := w_narrow k hk i (by omega) hi
  have c0 : ¬ zI (i : Int) < 0 := by rw [show (0 : Int32) = zI 0 from rfl, zI_lt (by omega) (by omega)]; omega
  have c1 : zI (i : Int) < nI (tq_lJ.getD k 0) := by
    rw [nI_z, zI_lt (by omega) (by have : tq_lJ.getD k 0 = wln k := rfl; omega)]
    have : tq_lJ.getD k 0 = wln k := rfl
    omega
  have c2 : (0 : Int32) ≤ zI (i : Int) ∧ zI (i : Int) < nI (tq_lJ.getD k 0) := ⟨by rw [show (0 : Int32) = zI 0 from rfl, zI_le (by omega) (by omega)]; omega, c1⟩
  unfold FJ0_charAt_5068e FJ0_isLatin1_aae02 FJ1_charAt_3b067 FJ0_checkIndex_df160 FJ3_checkIndex_8e157
  rw [zlet, if_neg (show ¬ (1 : Int32) = 0 by decide), if_pos (show (0 : Int32) = 0 from rfl), if_neg tb1, if_neg c0, if_pos c1, obind, obind, if_pos c2, obind, zI_cl (by omega), Int.toNat_natCast, n1, if_pos n2]
section CW
variable {I : tq_PI} {L : tq_PL} {B : Nat → Nat} {n s e : Nat}
theorem c_isWord (C : CTp I B n) (h8 : I 30 8 = zI (e : Int)) (h9 : I 30 9 = zI (s : Int)) (se : s ≤ e) (en : e ≤ n) (hl : ∀ i, s ≤ i → i < e → isL (B i) = true) {k : Nat} (hk : k < 11) : FX7_isWord I L 30 k = some (decide (wcd (e - s) (vv B s (e - s)) = k + 1)) := by
  have c1 := C.1
  obtain ⟨l1, l2⟩ := w_len k hk
  have hB : ∀ i, i < e - s → 97 ≤ B (s + i) ∧ B (s + i) ≤ 122 := fun i hi => by
    have := hl (s + i) (by omega) (by omega)
    unfold isL at this
    rw [decide_eq_true_eq] at this
    exact this
  have hW : ∀ i, i < wln k → 97 ≤ wch k (0 + i) ∧ wch k (0 + i) ≤ 122 := fun i hi => by
    rw [Nat.zero_add]
    exact w_let k hk i (by omega) hi
  have iff : wcd (e - s) (vv B s (e - s)) = k + 1 ↔ (e - s = wln k ∧ ∀ i, i < wln k → B (s + i) = wch k i) := by
    rw [wcd_k k hk]
    constructor
    · intro h
      obtain ⟨h1, h2⟩ := vv_in _ _ hB hW h.2
      refine ⟨h1, fun i hi => ?_⟩
      have := h2 i (by omega)
      rw [Nat.zero_add] at this
      exact this
    · intro h
      refine ⟨by omega, ?_⟩
      rw [h.1]
      exact vv_cg _ (fun i hi => by rw [Nat.zero_add]; exact h.2 i hi)
  unfold FX7_isWord
  rw [zlet, c_length I L hk, h8, h9, zI_sub]
  by_cases q : e - s = wln k
  · rw [if_pos (by rw [zI_eq (by omega) (by omega)]; omega)]
    obtain ⟨b, eb, hb⟩ := it_for (f := fun p : Int32 => FX7_isWord_s20 I L 30 k p) (fun i (_ : Unit) => zI (i : Int)) (wln k) (fun i _ => ∀ j, j < i → B (s + j) = wch k j) (Post := fun b : Unit ⊕ Bool => (b = .inl () ∧ ∀ j, j < wln k → B (s + j) = wch k j) ∨ (b = .inr false ∧ ∃ j, j < wln k ∧ B (s + j) ≠ wch k j)) (fun i _ hi h => by
      have e1 := c_byte (L := L) C (p := s + i) (by omega)
      have e2 := c_charAt I L hk hi
      have b1 := (C.2.2 (s + i) (by omega)).1
      have b2 := w_let k hk i (by omega) hi
      have e3 : zI (s : Int) + zI (i : Int) = zI ((s + i : Nat) : Int) := by rw [zI_add]; rfl
      unfold FX7_isWord_s20
      rw [zlet, c_length I L hk, h9, e3, e1, e2, obind, obind, if_neg (by rw [zI_le (by omega) (by omega)]; omega)]
      by_cases g : B (s + i) = wch k i
      · rw [if_pos (by rw [g]), z_suc]
        refine Or.inl ⟨(), rfl, fun j hj => ?_⟩
        by_cases g2 : j = i
        · rw [g2]; exact g
        · exact h j (by omega)
      · rw [if_neg (by rw [zI_eq (by omega) (by omega)]; omega)]
        exact Or.inr ⟨_, rfl, Or.inr ⟨rfl, i, hi, g⟩⟩) (fun _ h => by
      unfold FX7_isWord_s20
      rw [zlet, c_length I L hk, if_pos (by rw [zI_le (by omega) (by omega)]; omega)]
      exact ⟨_, rfl, Or.inl ⟨rfl, h⟩⟩) 0 () (by omega) (by omega) (fun j hj => by omega)
    have eb' : tq_it (fun p : Int32 => FX7_isWord_s20 I L 30 k p) tq_N (0 : Int32) = some b := eb
    rw [eb', obind]
    rcases hb with ⟨rfl, h⟩ | ⟨rfl, j, j1, j2⟩
    · rw [decide_eq_true (iff.2 ⟨q, h⟩)]
      rfl
    · rw [decide_eq_false (fun h => j2 ((iff.1 h).2 j j1))]
      rfl
  · rw [if_neg (by rw [zI_eq (by omega) (by omega)]; omega), decide_eq_false (fun h => q (iff.1 h).1)]
/-- the word by the class's count -/
def kwd (s c : Nat) : Int := if s = 0 then (if c = 1 then 5 else if 2 ≤ c ∧ c ≤ 6 then (c : Int) - 2 else -1) else if s = 1 then (if c = 7 then 0 else if c = 8 then 1 else if c = 6 then 2 else if c = 9 then 3 else -1) else if s = 2 then (if c = 10 then 0 else -1) else (if c = 11 then 0 else -1)
theorem b_dec {p : Prop} [Decidable p] : (tq_b (decide p) = 0) = ¬ p := by
  by_cases h : p
  · rw [decide_eq_true h]; simp [h, tq_b]
  · rw [decide_eq_false h]; simp [h, tq_b]
theorem c_keyword (C : CTp I B n) (h8 : I 30 8 = zI (e : Int)) (h9 : I 30 9 = zI (s : Int)) (se : s ≤ e) (en : e ≤ n) (hl : ∀ i, s ≤ i → i < e → isL (B i) = true) {k : Nat} (hk : k < 4) : FX7_keyword I L 30 (zI (k : Int)) = some (zI (kwd k (wcd (e - s) (vv B s (e - s))))) := by
  have W : ∀ j, j < 11 → FX7_isWord I L 30 j = some (decide (wcd (e - s) (vv B s (e - s)) = j + 1)) := fun j hj => c_isWord C h8 h9 se en hl hj
  generalize wcd (e - s) (vv B s (e - s)) = c at W ⊢
  have k4 : k = 0 ∨ k = 1 ∨ k = 2 ∨ k = 3 := by omega
  unfold FX7_keyword FX7_hillWord FX7_yearWord
  rw [W 0 (by omega), W 1 (by omega), W 2 (by omega), W 3 (by omega), W 4 (by omega), W 5 (by omega), W 6 (by omega), W 7 (by omega), W 8 (by omega), W 9 (by omega), W 10 (by omega)]
  simp only [obind, b_dec]
  unfold kwd
  rcases k4 with rfl | rfl | rfl | rfl
  · rw [if_pos (show zI ((0 : Nat) : Int) = 0 from rfl), if_pos rfl]
    by_cases q0 : c = 0 + 1
    · rw [if_neg (by omega), if_pos q0]; rfl
    · rw [if_pos q0, if_neg q0]
      by_cases q1 : c = 1 + 1
      · subst q1; rfl
      · rw [if_pos q1]
        by_cases q2 : c = 2 + 1
        · subst q2; rfl
        · rw [if_pos q2]
          by_cases q3 : c = 3 + 1
          · subst q3; rfl
          · rw [if_pos q3]
            by_cases q4 : c = 4 + 1
            · subst q4; rfl
            · rw [if_pos q4]
              by_cases q5 : c = 5 + 1
              · subst q5; rfl
              · rw [if_pos q5, if_neg (by omega)]; rfl
  · rw [if_neg (show ¬ zI ((1 : Nat) : Int) = 0 by decide), if_pos (show zI ((1 : Nat) : Int) = 1 from rfl), if_neg (show ¬ (1 : Nat) = 0 by omega), if_pos (show (1 : Nat) = 1 from rfl)]
    by_cases q0 : c = 6 + 1
    · subst q0; rfl
    · rw [if_pos q0, if_neg q0]
      by_cases q1 : c = 7 + 1
      · subst q1; rfl
      · rw [if_pos q1, if_neg q1]
        by_cases q2 : c = 5 + 1
        · subst q2; rfl
        · rw [if_pos q2, if_neg q2]
          by_cases q3 : c = 8 + 1
          · subst q3; rfl
          · rw [if_pos q3, if_neg q3]; rfl
  · rw [if_neg (show ¬ zI ((2 : Nat) : Int) = 0 by decide), if_neg (show ¬ zI ((2 : Nat) : Int) = 1 by decide), if_pos (show zI ((2 : Nat) : Int) = 2 from rfl), if_neg (show ¬ (2 : Nat) = 0 by omega), if_neg (show ¬ (2 : Nat) = 1 by omega), if_pos (show (2 : Nat) = 2 from rfl)]
    by_cases q0 : c = 9 + 1
    · subst q0; rfl
    · rw [if_pos q0, if_neg q0]; rfl
  · rw [if_neg (show ¬ zI ((3 : Nat) : Int) = 0 by decide), if_neg (show ¬ zI ((3 : Nat) : Int) = 1 by decide), if_neg (show ¬ zI ((3 : Nat) : Int) = 2 by decide), if_neg (show ¬ (3 : Nat) = 0 by omega), if_neg (show ¬ (3 : Nat) = 1 by omega), if_neg (show ¬ (3 : Nat) = 2 by omega)]
    by_cases q0 : c = 10 + 1
    · subst q0; rfl
    · rw [if_pos q0, if_neg q0]; rfl
end CW
