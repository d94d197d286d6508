/-! WHAT HOLDS BETWEEN TWO CALLS. -/
def INV (I : tq_PI) (L : tq_PL) : Prop := BK I L 1 0 ∧ (∀ k, k < 3 → I 29 k = I 138 k) ∧ ∀ k, k < 3 → ¬ I 138 k = 0 → BK I L (55 + 27 * k) (1004 * (k + 1))
section IV
variable {I J K : tq_PI} {L M : tq_PL} {b o : Nat}
theorem CB.to {s d : Nat} {M2 : tq_PL} (C : CB I L J M s d) (hc : ∀ c, d ≤ c → c < d + 27 → K c = J c) (hl : ∀ c, d ≤ c → c < d + 27 → M2 c = M c) : CB I L K M2 s d := by
  obtain ⟨⟨a1, a2, a3⟩, b1, c1, e1⟩ := C
  refine ⟨⟨by rw [hc d (by omega) (by omega)]; exact a1, by rw [hc d (by omega) (by omega)]; exact a2, by rw [hc d (by omega) (by omega)]; exact a3⟩, fun j hj => by rw [hc (d + 1) (by omega) (by omega)]; exact b1 j hj, fun j hj => by rw [hc (d + 2) (by omega) (by omega)]; exact c1 j hj, fun i hi => (e1 i hi).mv (fun c h1 h2 => hc c (by omega) (by omega)) (hl _ (by omega) (by omega))⟩
theorem CB.same : CB I L I L b b := ⟨⟨rfl, rfl, rfl⟩, fun _ _ => rfl, fun _ _ => rfl, fun i _ => ⟨⟨rfl, rfl, fun _ _ _ => rfl⟩, ⟨rfl, fun _ _ => ⟨rfl, rfl, rfl⟩⟩, ⟨rfl, fun _ _ => ⟨rfl, rfl⟩⟩, rfl, fun _ _ => rfl⟩⟩
theorem BK.fr (V : BK I L b o) (hc : ∀ c, b ≤ c → c < b + 27 → J c = I c) (hl : ∀ c, b ≤ c → c < b + 27 → M c = L c) (h7 : ∀ j, o ≤ j → j < o + 1004 → J 137 j = I 137 j) : BK J M b o := V.cp (CB.same.to hc hl) (fun j hj => h7 _ (by omega) (by omega))
theorem INV.fp (N : INV I L) (F : FP I J) (G : FP L M) : INV J M := by
  obtain ⟨n1, n2, n3⟩ := N
  have h7 : J 137 = I 137 := F 137 (by unfold psl; omega)
  have h8 : J 138 = I 138 := F 138 (by unfold psl; omega)
  have h9 : J 29 = I 29 := F 29 (by unfold psl; omega)
  refine ⟨n1.fr (fun c h1 h2 => F c (by unfold psl; omega)) (fun c h1 h2 => G c (by unfold psl; omega)) (fun j _ _ => by rw [h7]), fun k hk => by rw [h8, h9]; exact n2 k hk, fun k hk h => ?_⟩
  rw [h8] at h
  exact (n3 k hk h).fr (fun c h1 h2 => F c (by unfold psl; omega)) (fun c h1 h2 => G c (by unfold psl; omega)) (fun j _ _ => by rw [h7])
/-- the images when the book alone has changed -/
theorem INV.bk (N : INV I L) (V : BK J M 1 0) (hc : ∀ c, 28 ≤ c → psl c → c ≠ 137 → J c = I c) (hl : ∀ c, 28 ≤ c → psl c → c ≠ 137 → M c = L c) (h7 : ∀ j, 1004 ≤ j → J 137 j = I 137 j) : INV J M := by
  obtain ⟨n1, n2, n3⟩ := N
  refine ⟨V, fun k hk => by rw [hc 29 (by omega) (by unfold psl; omega) (by omega), hc 138 (by omega) (by unfold psl; omega) (by omega)]; exact n2 k hk, fun k hk h => ?_⟩
  rw [hc 138 (by omega) (by unfold psl; omega) (by omega)] at h
  exact (n3 k hk h).fr (fun c h1 h2 => hc c (by omega) (by unfold psl; omega) (by omega)) (fun c h1 h2 => hl c (by omega) (by unfold psl; omega) (by omega)) (fun j h1 h2 => h7 j (by omega))
theorem INV.text {I2 J2 : tq_PI} {L2 : tq_PL} (N : INV I L) (T : TX I L I2 L2 I2 J2) : INV J2 L2 := by
  obtain ⟨t1, t2, t3, t4, t5⟩ := T
  have h7 : I2 137 = I 137 := t1 137 (by unfold psl; omega) (by omega)
  refine N.bk (t5 J2 L2 (fun c h1 h2 => t3 c (by unfold psl; omega) (by omega)) (fun _ _ _ => rfl) rfl) (fun c h1 h2 h3 => ?_) (fun c h1 h2 h3 => t2 c h2 (by omega)) (fun j hj => by rw [t4 j hj, h7])
  rw [t3 c h2 h3, t1 c h2 (by omega)]
theorem INV.feed {I2 J2 : tq_PI} {n : Nat} {w : Nat → Nat} (N : INV I L) (hn : n ≤ 580) (h1 : I 1 1 = zI (n : Int)) (A : AP I I2 n 20 w) (R : AR I2 J2 n 20 w) (hw : ∀ i, w i < 256) : INV J2 L := by
  obtain ⟨a1, a2, a3, a4, a5⟩ := A
  obtain ⟨r1, r2, r3, r4⟩ := R
  have jc : ∀ c, c ≠ 137 → c ≠ 1 → c ≠ 2 → J2 c = I c := fun c q1 q2 q3 => by rw [r3 c q1, a3 c q2 q3]
  have j7 : ∀ j, j ≠ 4 → (j < 10 + n ∨ 10 + n + 20 ≤ j) → J2 137 j = I 137 j := fun j q1 q2 => by rw [r4 j q1 q2, a3 137 (by omega) (by omega)]
  obtain ⟨v1, v2, v3, v4, ⟨b1, b2, b3⟩, m, hm, t1, t2, t3⟩ := N.1
  have mn : m = n := by
    rw [h1, zI_eq (by omega) (by omega)] at t1
    omega
  subst mn
  refine N.bk ⟨hv_keep v1 (j7 0 (by omega) (by omega)) (by rw [jc 3 (by omega) (by omega) (by omega)]) (fun i hi => ⟨jc _ (by omega) (by omega) (by omega), rfl⟩) (fun j q1 q2 => j7 j (by omega) (by omega)), yv_keep v2 (j7 1 (by omega) (by omega)) (by rw [jc 3 (by omega) (by omega) (by omega)]) (fun i hi => ⟨jc _ (by omega) (by omega) (by omega), jc _ (by omega) (by omega) (by omega), jc _ (by omega) (by omega) (by omega), jc _ (by omega) (by omega) (by omega)⟩) (fun j q1 q2 => j7 j (by omega) (by omega)), lv_keep v3 (j7 2 (by omega) (by omega)) (by rw [jc 3 (by omega) (by omega) (by omega)]) (fun i hi => ⟨jc _ (by omega) (by omega) (by omega), jc _ (by omega) (by omega) (by omega), jc _ (by omega) (by omega) (by omega)⟩) (fun j q1 q2 => j7 j (by omega) (by omega)), tv_keep v4 (j7 3 (by omega) (by omega)) (by rw [jc 3 (by omega) (by omega) (by omega)]) (fun i hi => ⟨jc _ (by omega) (by omega) (by omega), jc _ (by omega) (by omega) (by omega)⟩) (fun j q1 q2 => j7 j (by omega) (by omega)), ⟨?_, ?_, ?_⟩, m + 20, by omega, ?_, ?_, fun i hi => ?_⟩ (fun c q1 _ q2 => jc c q2 (by omega) (by omega)) (fun _ _ _ _ => rfl) (fun j hj => j7 j (by omega) (by omega))
  · rw [r3 1 (by omega), a1, Nat.zero_add, r1]
  · rw [r3 1 (by omega), a4 2 (by omega), b2, Nat.zero_add, j7 5 (by omega) (by omega)]
  · rw [r3 1 (by omega), a4 3 (by omega), b3, Nat.zero_add, j7 6 (by omega) (by omega)]
  · rw [r3 1 (by omega)]; exact a1
  · rw [Nat.zero_add]; exact r1
  · by_cases q : i < m
    · obtain ⟨x, x1, x2, x3⟩ := t3 i q
      refine ⟨x, x1, ?_, ?_⟩
      · rw [j7 _ (by omega) (by omega)]; exact x2
      · rw [r3 (1 + 1) (by omega)]
        show I2 2 i = _
        rw [a5 i q]; exact x3
    · refine ⟨w (i - m), hw _, ?_, ?_⟩
      · rw [show 0 + 10 + i = 10 + m + (i - m) by omega]; exact r2 _ (by omega)
      · rw [r3 (1 + 1) (by omega)]
        show I2 2 i = _
        rw [show i = m + (i - m) by omega, Nat.add_sub_cancel_left]
        exact a2 _ (by omega)
theorem INV.end {x : Int32} (N : INV I L) (h0 : 0 ≤ x) (h1 : x ≤ I 1 1) : INV (tq_up2 (tq_up2 I 1 1 x) 137 4 x) L := by
  obtain ⟨J, hJ⟩ : ∃ J, J = tq_up2 (tq_up2 I 1 1 x) 137 4 x := ⟨_, rfl⟩
  rw [← hJ]
  have jc : ∀ c, c ≠ 137 → c ≠ 1 → J c = I c := fun c q1 q2 => by rw [hJ, up_row q1, up_row q2]
  have j7 : ∀ j, j ≠ 4 → J 137 j = I 137 j := fun j q1 => by rw [hJ, up_n _ _ (by omega), up_n _ _ (by omega)]
  have j1 : ∀ j, j ≠ 1 → J 1 j = I 1 j := fun j q1 => by rw [hJ, up_n _ _ (by omega), up_n _ _ (by omega)]
  have j11 : J 1 1 = x := by rw [hJ, up_n _ _ (by omega), up_s]
  have j4 : J 137 4 = x := by rw [hJ, up_s]
  obtain ⟨v1, v2, v3, v4, ⟨b1, b2, b3⟩, m, hm, t1, t2, t3⟩ := N.1
  obtain ⟨z, hz, rfl⟩ := zI_of x
  rw [t1, zI_le (by omega) (by omega)] at h1
  rw [show (0 : Int32) = zI 0 from rfl, zI_le (by omega) (by omega)] at h0
  obtain ⟨k, rfl⟩ : ∃ k : Nat, z = k := ⟨z.toNat, by omega⟩
  refine N.bk ⟨hv_keep v1 (j7 0 (by omega)) (by rw [jc 3 (by omega) (by omega)]) (fun i hi => ⟨jc _ (by omega) (by omega), rfl⟩) (fun j q1 q2 => j7 j (by omega)), yv_keep v2 (j7 1 (by omega)) (by rw [jc 3 (by omega) (by omega)]) (fun i hi => ⟨jc _ (by omega) (by omega), jc _ (by omega) (by omega), jc _ (by omega) (by omega), jc _ (by omega) (by omega)⟩) (fun j q1 q2 => j7 j (by omega)), lv_keep v3 (j7 2 (by omega)) (by rw [jc 3 (by omega) (by omega)]) (fun i hi => ⟨jc _ (by omega) (by omega), jc _ (by omega) (by omega), jc _ (by omega) (by omega)⟩) (fun j q1 q2 => j7 j (by omega)), tv_keep v4 (j7 3 (by omega)) (by rw [jc 3 (by omega) (by omega)]) (fun i hi => ⟨jc _ (by omega) (by omega), jc _ (by omega) (by omega)⟩) (fun j q1 q2 => j7 j (by omega)), ⟨?_, ?_, ?_⟩, k, by omega, j11, ?_, fun i hi => ?_⟩ (fun c q1 _ q2 => jc c q2 (by omega)) (fun _ _ _ _ => rfl) (fun j hj => j7 j (by omega))
  · rw [j11, Nat.zero_add, j4]
  · rw [j1 2 (by omega), b2, Nat.zero_add, j7 5 (by omega)]
  · rw [j1 3 (by omega), b3, Nat.zero_add, j7 6 (by omega)]
  · rw [Nat.zero_add]; exact j4
  · obtain ⟨y, y1, y2, y3⟩ := t3 i (by omega)
    exact ⟨y, y1, by rw [j7 _ (by omega)]; exact y2, by rw [jc (1 + 1) (by omega) (by omega)]; exact y3⟩
theorem INV.image {I2 K : tq_PI} {L2 : tq_PL} {k : Nat} (N : INV I L) (hk : k < 3) (C : CB I L I2 L2 1 (55 + 27 * k)) (F : FB (55 + 27 * k) I I2) (G : FB (55 + 27 * k) L L2) (R : RC (tq_up2 (tq_up2 I2 29 k 1) 138 k 1) K 0 (1004 * (k + 1)) 1004) : INV K L2 := by
  obtain ⟨r1, r2, r3⟩ := R
  have kc : ∀ c, c ≠ 137 → c ≠ 138 → c ≠ 29 → K c = I2 c := fun c q1 q2 q3 => by rw [r2 c q1, up_row q2, up_row q3]
  have x7 : ∀ j, (tq_up2 (tq_up2 I2 29 k 1) 138 k 1) 137 j = I 137 j := fun j => by rw [up_n _ _ (by omega), up_n _ _ (by omega), F 137 (by omega)]
  have k7 : ∀ j, (j < 1004 * (k + 1) ∨ 1004 * (k + 1) + 1004 ≤ j) → K 137 j = I 137 j := fun j h => by rw [r3 j h, x7]
  obtain ⟨n1, n2, n3⟩ := N
  refine ⟨n1.fr (fun c h1 h2 => by rw [kc c (by omega) (by omega) (by omega), F c (by omega)]) (fun c h1 h2 => G c (by omega)) (fun j h1 h2 => k7 j (by omega)), fun t ht => ?_, fun t ht h => ?_⟩
  · rw [r2 29 (by omega), r2 138 (by omega), up_row (by omega)]
    by_cases q : t = k
    · subst q; rw [up_s, up_s]
    · rw [up_n _ _ (by omega), up_n _ _ (by omega), up_n _ _ (by omega), F 29 (by omega), F 138 (by omega)]
      exact n2 t ht
  · by_cases q : t = k
    · subst q
      refine n1.cp (C.to (fun c h1 h2 => kc c (by omega) (by omega) (by omega)) (fun _ _ _ => rfl)) (fun j hj => ?_)
      rw [r1 j hj, x7]
    · rw [r2 138 (by omega), up_n _ _ (by omega), up_n _ _ (by omega), F 138 (by omega)] at h
      refine (n3 t ht h).fr (fun c h1 h2 => by rw [kc c (by omega) (by omega) (by omega), F c (by omega)]) (fun c h1 h2 => G c (by omega)) (fun j h1 h2 => k7 j (by omega))
theorem INV.again {I2 K : tq_PI} {L2 : tq_PL} {k : Nat} (N : INV I L) (hk : k < 3) (h : ¬ I 138 k = 0) (C : CB I L I2 L2 (55 + 27 * k) 1) (F : FB 1 I I2) (G : FB 1 L L2) (R : RC I2 K (1004 * (k + 1)) 0 1004) : INV K L2 := by
  obtain ⟨r1, r2, r3⟩ := R
  have i7 : I2 137 = I 137 := F 137 (by omega)
  refine N.bk ((N.2.2 k hk h).cp (C.to (fun c h1 h2 => r2 c (by omega)) (fun _ _ _ => rfl)) (fun j hj => by rw [r1 j hj, i7])) (fun c h1 h2 h3 => by rw [r2 c h3, F c (by omega)]) (fun c h1 h2 h3 => G c (by omega)) (fun j hj => by rw [r3 j (by omega), i7])
end IV
theorem inv_0a : tq_I0 137 0 = 0 ∧ tq_I0 137 1 = 0 ∧ tq_I0 137 2 = 0 ∧ tq_I0 137 3 = 0 ∧ tq_I0 137 4 = 0 ∧ tq_I0 137 5 = 0 ∧ tq_I0 137 6 = -1 := by decide +kernel
theorem inv_0b : tq_I0 3 0 = 0 ∧ tq_I0 3 1 = 0 ∧ tq_I0 3 2 = 0 ∧ tq_I0 3 3 = 0 ∧ tq_I0 1 1 = 0 ∧ tq_I0 1 2 = 0 ∧ tq_I0 1 3 = -1 := by decide +kernel
theorem inv_0c : ∀ k, k < 3 → tq_I0 29 k = 0 ∧ tq_I0 138 k = 0 := by decide +kernel
theorem inv_0 : INV tq_I0 tq_L0 := by
  obtain ⟨a0, a1, a2, a3, a4, a5, a6⟩ := inv_0a
  obtain ⟨b0, b1, b2, b3, b4, b5, b6⟩ := inv_0b
  refine ⟨⟨⟨0, by omega, a0, b0, fun i hi => by omega⟩, ⟨0, by omega, a1, b1, fun i hi => by omega⟩, ⟨0, by omega, a2, b2, fun i hi => by omega⟩, ⟨0, by omega, a3, b3, fun i hi => by omega⟩, ⟨?_, ?_, ?_⟩, 0, by omega, b4, a4, fun i hi => by omega⟩, fun k hk => ?_, fun k hk h => absurd (inv_0c k hk).2 h⟩
  · rw [b4, Nat.zero_add, a4]
  · rw [b5, Nat.zero_add, a5]
  · rw [b6, Nat.zero_add, a6]
  · rw [(inv_0c k hk).1, (inv_0c k hk).2]
