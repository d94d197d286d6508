/-! BOOKS: what holds of a book holds of its copy. -/
def BK (I : tq_PI) (L : tq_PL) (b o : Nat) : Prop := HV I L b o ∧ YV I b o ∧ LV I b o ∧ TV I b o ∧ BV I b o ∧ TP I b o
section BC
variable {I J : tq_PI} {L M : tq_PL} {s d o u : Nat}
theorem HV.cp (V : HV I L s o) (C : CB I L J M s d) (E : ∀ j, j < 1004 → J 137 (u + j) = I 137 (o + j)) : HV J M d u := by
  obtain ⟨-, -, c3, c4⟩ := C
  obtain ⟨m, m2, a, b, h⟩ := V
  refine ⟨m, m2, (E 0 (by omega)).trans a, (c3 0 (by omega)).trans b, fun i hi => ?_⟩
  obtain ⟨w, g, K, H, ⟨h1, h2, h3⟩, S⟩ := h i hi
  obtain ⟨⟨x0, x1, x2⟩, -⟩ := c4 i (by omega)
  have k := H.k
  have wh : w * g ≤ 48 := by
    have h8 : w ≤ 8 := by have := k; unfold wh at this; omega
    have h6 : g ≤ 6 := by have := k; unfold wh at this; omega
    exact Nat.mul_le_mul h8 h6
  refine ⟨w, g, K, H.take x0 x1 x2, ⟨(E _ (by omega)).trans h1, (E _ (by omega)).trans h2, fun c hc => (E _ (by omega)).trans (h3 c hc)⟩, S⟩
theorem YV.cp (V : YV I s o) (C : CB I L J M s d) (E : ∀ j, j < 1004 → J 137 (u + j) = I 137 (o + j)) : YV J d u := by
  obtain ⟨-, -, c3, c4⟩ := C
  obtain ⟨m, m2, a, b, h⟩ := V
  refine ⟨m, m2, (E 1 (by omega)).trans a, (c3 1 (by omega)).trans b, fun i hi => ?_⟩
  obtain ⟨n, yk, yf, ys, d1, d2, d3, d4⟩ := h i hi
  obtain ⟨-, ⟨x0, x1⟩, -⟩ := c4 i (by omega)
  refine ⟨n, yk, yf, ys, d1, x0.trans d2, (E _ (by omega)).trans d3, fun k hk => ?_⟩
  obtain ⟨f1, f2, f3, f4, f5, f6, f7, f8, f9⟩ := d4 k hk
  obtain ⟨y1, y2, y3⟩ := x1 k (by omega)
  exact ⟨f1, f2, f3, y1.trans f4, y2.trans f5, y3.trans f6, (E _ (by omega)).trans f7, (E _ (by omega)).trans f8, (E _ (by omega)).trans f9⟩
theorem LV.cp (V : LV I s o) (C : CB I L J M s d) (E : ∀ j, j < 1004 → J 137 (u + j) = I 137 (o + j)) : LV J d u := by
  obtain ⟨-, -, c3, c4⟩ := C
  obtain ⟨m, m2, a, b, h⟩ := V
  refine ⟨m, m2, (E 2 (by omega)).trans a, (c3 2 (by omega)).trans b, fun i hi => ?_⟩
  obtain ⟨n, lc, lh, d1, d2, d3, d4⟩ := h i hi
  obtain ⟨-, -, ⟨x0, x1⟩, -⟩ := c4 i (by omega)
  refine ⟨n, lc, lh, d1, x0.trans d2, (E _ (by omega)).trans d3, fun k hk => ?_⟩
  obtain ⟨f1, f2, f3, f4, f5, f6⟩ := d4 k hk
  obtain ⟨y1, y2⟩ := x1 k (by omega)
  exact ⟨f1, f2, y1.trans f3, y2.trans f4, (E _ (by omega)).trans f5, (E _ (by omega)).trans f6⟩
theorem TV.cp (V : TV I s o) (C : CB I L J M s d) (E : ∀ j, j < 1004 → J 137 (u + j) = I 137 (o + j)) : TV J d u := by
  obtain ⟨-, -, c3, c4⟩ := C
  obtain ⟨m, m2, a, b, h⟩ := V
  refine ⟨m, m2, (E 3 (by omega)).trans a, (c3 3 (by omega)).trans b, fun i hi => ?_⟩
  obtain ⟨n, tw, d1, d2, d3, d4⟩ := h i hi
  obtain ⟨-, -, -, x0, x1⟩ := c4 i (by omega)
  refine ⟨n, tw, d1, x0.trans d2, (E _ (by omega)).trans d3, fun k hk => ?_⟩
  obtain ⟨f1, f2, f3⟩ := d4 k hk
  exact ⟨f1, (x1 k (by omega)).trans f2, (E _ (by omega)).trans f3⟩
theorem BK.cp (V : BK I L s o) (C : CB I L J M s d) (E : ∀ j, j < 1004 → J 137 (u + j) = I 137 (o + j)) : BK J M d u := by
  obtain ⟨v1, v2, v3, v4, ⟨b1, b2, b3⟩, n, hn, t1, t2, t3⟩ := V
  refine ⟨v1.cp C E, v2.cp C E, v3.cp C E, v4.cp C E, ⟨?_, ?_, ?_⟩, n, hn, C.1.1.trans t1, (E 4 (by omega)).trans t2, fun i hi => ?_⟩
  · rw [C.1.1, b1, E 4 (by omega)]
  · rw [C.1.2.1, b2, E 5 (by omega)]
  · rw [C.1.2.2, b3, E 6 (by omega)]
  · obtain ⟨x, x1, x2, x3⟩ := t3 i hi
    refine ⟨x, x1, ?_, (C.2.1 i (by omega)).trans x3⟩
    rw [Nat.add_assoc, E (10 + i) (by omega), ← Nat.add_assoc]
    exact x2
end BC
