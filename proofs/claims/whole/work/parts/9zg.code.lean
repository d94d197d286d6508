/-! TALKS, CODE: the class's search. -/
theorem rg_52_0 : tq_rg 52 0 = 53 := by decide +kernel
def CT (I : tq_PI) (n : Nat) (f wd : Nat → Nat) : Prop := n ≤ 8 ∧ I 52 1 = zI (n : Int) ∧ (∀ i, i < n → I 53 i = zI (f (wd i) : Nat)) ∧ ∀ x, f x ≤ 99
theorem rsq_le {n : Nat} {f wd : Nat → Nat} (hf : ∀ x, f x ≤ 99) (d : Nat) : rsq n f wd d ≤ n * 99 := sm_le (G := fun i => if d ≤ i then f (wd i) else 0) (fun i => by
  show (if d ≤ i then f (wd i) else 0) ≤ 99
  have := hf (wd i)
  split <;> omega) n
theorem c_rest {I : tq_PI} {L : tq_PL} {n : Nat} {f wd : Nat → Nat} (C : CT I n f wd) {d : Nat} (hd : d ≤ n) : FX1_rest I L 52 (zI (d : Int)) = some (zI (rsq n f wd d : Nat)) := by
  obtain ⟨n8, c1, c2, c3⟩ := C
  obtain ⟨o, e, ho⟩ := it_for (f := fun p : Int32 × Int32 => FX1_rest_s8 I L 52 p.1 p.2) (fun i (s : Int32) => (s, zI (i : Int))) n (fun i s => ∃ v : Nat, s = zI (v : Int) ∧ v + rsq n f wd i = rsq n f wd d) (Post := fun o => o = zI (rsq n f wd d : Nat)) (fun i s hi hs => by
    obtain ⟨v, rfl, hv⟩ := hs
    dsimp only
    unfold FX1_rest_s8
    rw [c1, if_neg (by rw [zI_le (by omega) (by omega)]; omega), if_neg (by rw [zI_lit, zI_le (by omega) (by omega)]; omega), if_pos (by rw [show (0 : Int32) = zI 0 from rfl, show (8 : Int32) = zI 8 from rfl, zI_le (by omega) (by omega), zI_lt (by omega) (by omega)]; omega), rg_52_0, zI_cl (by omega), Int.toNat_natCast, c2 i hi, zI_add]
    have st := rsq_step (f := f) (wd := wd) hi
    refine Or.inl ⟨zI ((v + f (wd i) : Nat) : Int), ?_, v + f (wd i), rfl, by omega⟩
    rw [Int.natCast_add, zI_lit, zI_add, Int.natCast_add, Int.natCast_one]) (fun s hs => by
    obtain ⟨v, rfl, hv⟩ := hs
    dsimp only
    unfold FX1_rest_s8
    rw [c1, if_pos (by rw [zI_le (by omega) (by omega)]; omega)]
    rw [rsq_end] at hv
    exact ⟨_, rfl, by rw [← hv, Nat.add_zero]⟩) d (zI ((0 : Nat) : Int)) hd (by omega) ⟨0, rfl, Nat.zero_add _⟩
  unfold FX1_rest
  rw [if_neg (by rw [zI_lit, zI_lt (by omega) (by omega)]; omega)]
  refine (congrArg (fun o => Option.bind o _) e).trans ((obind _ _).trans ?_)
  rw [ho]
theorem c_cost {I : tq_PI} {L : tq_PL} {n : Nat} {f wd : Nat → Nat} (C : CT I n f wd) : ∀ (r g d p q : Nat), r < g → r ≤ 17 → d ≤ 8 → p ≤ 16 → q ≤ 16 → FX1_cost g I L 52 (zI (d : Int)) (zI (p : Int)) (zI (q : Int)) (zI ((17 - r : Nat) : Int)) = some (zI (Cq n (rsq n f wd) r d p q : Nat))
  | r, 0, d, p, q, h, _, _, _, _ => absurd h (Nat.not_lt_zero r)
  | r, g + 1, d, p, q, h, hr, hd, hp, hq => by
    have n8 := C.1
    show FX1_costb (FX1_cost g) I L 52 (zI (d : Int)) (zI (p : Int)) (zI (q : Int)) (zI ((17 - r : Nat) : Int)) = _
    unfold FX1_costb FX1_cost_j19
    rw [C.2.1, zI_add, zI_add, zI_add]
    cases r with
    | zero =>
      have e : Cq n (rsq n f wd) 0 d p q = 1000000 := rfl
      rw [e, if_neg (show ¬ zI ((17 - 0 : Nat) : Int) ≤ 16 by decide), ite_self]
      rfl
    | succ r =>
      have e : Cq n (rsq n f wd) (r + 1) d p q = if n < d + p + q then 1000000 else if p + q = 0 then (if d = n then 0 else 1000000) else mn (fun k => rsq n f wd (d + k) + Cq n (rsq n f wd) r (d + k) (q + (p - k)) (p - k)) (p + 1) := rfl
      rw [e]
      by_cases q1 : n < d + p + q
      · rw [if_pos (by rw [zI_lt (by omega) (by omega)]; omega), if_pos q1]
        rfl
      · rw [if_neg (by rw [zI_lt (by omega) (by omega)]; omega), if_neg q1, if_pos (by rw [zI_lit, zI_le (by omega) (by omega)]; omega)]
        by_cases q2 : p + q = 0
        · rw [if_pos (by rw [zI_lit, zI_eq (by omega) (by omega)]; omega), if_pos q2]
          by_cases q3 : d = n
          · rw [if_pos (by rw [q3]), if_pos q3]
            rfl
          · rw [if_neg (by rw [zI_eq (by omega) (by omega)]; omega), if_neg q3]
            rfl
        · rw [if_neg (by rw [zI_lit, zI_eq (by omega) (by omega)]; omega), if_neg q2]
          obtain ⟨o, eo, ho⟩ := it_for (f := fun t : Int32 × Int32 => FX1_cost_s50 (FX1_cost g) I L 52 (zI (d : Int)) (zI (p : Int)) (zI (q : Int)) (zI ((17 - (r + 1) : Nat) : Int)) t.1 t.2) (fun i (s : Int32) => (s, zI (i : Int))) (p + 1) (fun i s => s = zI (mn (fun k => rsq n f wd (d + k) + Cq n (rsq n f wd) r (d + k) (q + (p - k)) (p - k)) i : Nat)) (Post := fun o => o = zI (mn (fun k => rsq n f wd (d + k) + Cq n (rsq n f wd) r (d + k) (q + (p - k)) (p - k)) (p + 1) : Nat)) (fun i s hi hs => by
            subst hs
            dsimp only
            have e1 := c_rest (L := L) C (d := d + i) (by omega)
            have e2 := c_cost (L := L) C r g (d + i) (q + (p - i)) (p - i) (by omega) (by omega) (by omega) (by omega) (by omega)
            have b1 := rsq_le (n := n) (wd := wd) C.2.2.2 (d + i)
            have b2 := Cq_le (n := n) (rs := rsq n f wd) r (d + i) (q + (p - i)) (p - i)
            have b3 := mn_le (F := fun k => rsq n f wd (d + k) + Cq n (rsq n f wd) r (d + k) (q + (p - k)) (p - k)) i
            unfold FX1_cost_s50
            rw [if_neg (by rw [zI_lt (by omega) (by omega)]; omega), zI_add, zI_sub, zI_add, show (1 : Int32) = zI 1 from rfl, zI_add, show (d : Int) + (i : Int) = ((d + i : Nat) : Int) by omega, e1, obind, show (q : Int) + ((p : Int) - (i : Int)) = ((q + (p - i) : Nat) : Int) by omega, show (p : Int) - (i : Int) = ((p - i : Nat) : Int) by omega, show ((17 - (r + 1) : Nat) : Int) + 1 = ((17 - r : Nat) : Int) by omega, e2, obind, zI_add, zI_add]
            refine Or.inl ⟨zI (mn (fun k => rsq n f wd (d + k) + Cq n (rsq n f wd) r (d + k) (q + (p - k)) (p - k)) (i + 1) : Nat), ?_, rfl⟩
            have em : mn (fun k => rsq n f wd (d + k) + Cq n (rsq n f wd) r (d + k) (q + (p - k)) (p - k)) (i + 1) = if rsq n f wd (d + i) + Cq n (rsq n f wd) r (d + i) (q + (p - i)) (p - i) < mn (fun k => rsq n f wd (d + k) + Cq n (rsq n f wd) r (d + k) (q + (p - k)) (p - k)) i then rsq n f wd (d + i) + Cq n (rsq n f wd) r (d + i) (q + (p - i)) (p - i) else mn (fun k => rsq n f wd (d + k) + Cq n (rsq n f wd) r (d + k) (q + (p - k)) (p - k)) i := rfl
            rw [em]
            generalize mn (fun k => rsq n f wd (d + k) + Cq n (rsq n f wd) r (d + k) (q + (p - k)) (p - k)) i = X at *
            generalize rsq n f wd (d + i) = Y at *
            generalize Cq n (rsq n f wd) r (d + i) (q + (p - i)) (p - i) = Z at *
            rw [Int.natCast_add (n := i), Int.natCast_one]
            by_cases q3 : Y + Z < X
            · rw [if_pos (by rw [zI_lt (by omega) (by omega)]; omega), if_pos q3, Int.natCast_add]
            · rw [if_neg (by rw [zI_lt (by omega) (by omega)]; omega), if_neg q3]) (fun s hs => by
            subst hs
            dsimp only
            unfold FX1_cost_s50
            rw [if_pos (by rw [zI_lt (by omega) (by omega)]; omega)]
            exact ⟨_, rfl, rfl⟩) 0 (zI ((1000000 : Nat) : Int)) (by omega) (by omega) rfl
          refine (congrArg (fun o => Option.bind o _) eo).trans ((obind _ _).trans ?_)
          rw [ho]
