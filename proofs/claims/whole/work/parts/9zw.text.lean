/-! TEXT: a line in both: years, hills. -/
theorem lst_1 (M : tq_PL) : LST M (fun J => FX12_yearLine J M 136) 1 DR1 := by
  intro I L J B n p x C R D h0
  obtain ⟨m, m8, hm, hd⟩ := D
  obtain ⟨ra, rb⟩ := r_yearLine (M := M) R hm m8
  refine ⟨fun g => ra ?_, fun g w hw => ?_⟩
  · intro h
    rcases g with g | g
    · exact g h.1
    · rw [kwd_1] at g
      split at g
      · omega
      · split at g
        · omega
        · split at g
          · omega
          · split at g <;> omega
  · have w0 : (6 ≤ tW B n p ∧ tW B n p ≤ 9) ∧ w = wy (tW B n p) ∧ w ≤ 3 := by
      rw [kwd_1] at hw
      unfold wy
      split at hw
      · rename_i q; rw [if_pos q]; omega
      · rename_i q; rw [if_neg q]
        split at hw
        · rename_i q; rw [if_pos q]; omega
        · rename_i q; rw [if_neg q]
          split at hw
          · rename_i q; rw [if_pos q]; omega
          · rename_i q; rw [if_neg q]
            split at hw <;> omega
    obtain ⟨w1, w2, w3⟩ := w0
    have rr := rb ⟨g, w1⟩ w w2
    have n12 : nmn 1 w = if w = 3 then 1 else 2 := by
      unfold nmn
      rw [if_neg (by omega), if_neg (by omega)]
      by_cases q : w = 3
      · rw [if_pos ⟨rfl, q⟩, if_pos q]
      · rw [if_neg (fun h => q h.2), if_neg q]
    have npos : 0 < nmn 1 w := by rw [n12]; split <;> omega
    have n2 : w ≠ 3 → 1 < nmn 1 w := fun h => by rw [n12, if_neg h]; omega
    refine ⟨fun ok I1 hv F h11 => ?_, fun q er => ?_⟩
    · rcases rr with ⟨-, K, e, RK2, FK2, k139⟩ | ⟨K, q, -, er, -, -⟩
      · have ex : blm x (!FX7_isFull I L 30 (zI ((1 : Nat) : Int))) 3 (tS B n p) = blm x (decide (m < 40)) 3 (tS B n p) := blm_cg fun hx => by
          obtain ⟨yk, yf, ys, T⟩ := hd hx
          exact c_full1 T.2.1 m8
        rw [ex]
        obtain ⟨I2, e2, f2, a2⟩ := c_add10 (J := I1) (L := L) (zI (w : Int)) (I1 42 0) (if w = 3 then -1 else I1 42 1)
        refine ⟨K, I2, L, e, ?_, ⟨f2 _ (by omega) (by omega) (by omega) (by omega), f2 _ (by omega) (by omega) (by omega) (by omega)⟩, RK2, ?_, FK2, fun b hb => f2 b (by unfold psl at hb; omega) (by unfold psl at hb; omega) (by unfold psl at hb; omega) (by unfold psl at hb; omega), FP.rf⟩
        · unfold FX7_tell FX7_tell_j62
          rw [if_neg (by decide), if_pos (by decide), if_pos i01_3.1, if_pos i01_3.2.1, rg_30_5, rg_30.2.1, e0n, e1n]
          by_cases q3 : w = 3
          · rw [if_pos q3] at e2
            rw [if_pos (by rw [q3]; rfl), e2, obind]
          · rw [if_neg q3] at e2
            rw [if_neg (by rw [zI_lit, zI_eq (by omega) (by omega)]; omega), e2, obind]
        · by_cases g8 : m < 40
          · unfold yput at k139
            rw [if_pos g8] at k139
            have k0 : K 139 0 = zI ((m + 1 : Nat) : Int) := by rw [k139, up_s]
            refine ⟨m + 1, by omega, k0, fun hx => ?_⟩
            obtain ⟨hx1, hok⟩ := nf_0 _ hx
            obtain ⟨hx2, -⟩ := blm_0 (by omega) hx1
            obtain ⟨yk, yf, ys, t1, t2, t3, t4⟩ := hd hx2
            have nv0 := nva_ok (hok 0 npos)
            have l0 : tN B n (pp B n (tE B n p) 0) ≤ 20 := by
              have h1 := (of_decide_eq_true (hok 0 npos)).2
              have h2 : nhi 1 w 0 ≤ 20 := by
                unfold nhi
                rw [if_neg (by omega), if_neg (by omega)]
                split
                · omega
                · rw [if_neg (by omega), if_pos rfl]; omega
              omega
            obtain ⟨b1, ⟨b2, b3⟩, ⟨b4, b5⟩, b6, b7⟩ := a2 m g8 (by rw [F 33 (by omega) (by omega)]; exact t2)
            have l1 : w ≠ 3 → tN B n (pp B n (tE B n p) 1) ≤ 5 ∧ nva B n (tE B n p) 1 w 1 = tN B n (pp B n (tE B n p) 1) := fun h => by
              have h1 := (of_decide_eq_true (hok 1 (n2 h))).2
              have h2 : nhi 1 w 1 = 5 := by
                unfold nhi
                rw [if_neg (by omega), if_neg (by omega), if_neg (by omega), if_neg (by omega), if_neg (by omega)]
              exact ⟨by omega, nva_ok (hok 1 (n2 h))⟩
            obtain ⟨yk2, yk3, yk4⟩ : ∃ f : Nat → Nat, f m = w ∧ ∀ k, k ≠ m → f k = yk k := ⟨fun k => if k = m then w else yk k, if_pos rfl, fun k h => if_neg h⟩
            obtain ⟨yf2, yf3, yf4⟩ : ∃ f : Nat → Nat, f m = tN B n (pp B n (tE B n p) 0) ∧ ∀ k, k ≠ m → f k = yf k := ⟨fun k => if k = m then tN B n (pp B n (tE B n p) 0) else yf k, if_pos rfl, fun k h => if_neg h⟩
            obtain ⟨ys2, ys3, ys4⟩ : ∃ f : Nat → Nat, f m = (if w = 3 then 0 else tN B n (pp B n (tE B n p) 1)) ∧ ∀ k, k ≠ m → f k = ys k := ⟨fun k => if k = m then (if w = 3 then 0 else tN B n (pp B n (tE B n p) 1)) else ys k, if_pos rfl, fun k h => if_neg h⟩
            refine ⟨yk2, yf2, ys2, by omega, b1, k0, fun k hk => ?_⟩
            by_cases q : k = m
            · subst q
              rw [yk3, yf3, ys3, b2, b4, b6, hv 0 npos, k139, Nat.zero_add, Nat.zero_add, Nat.zero_add, up_n _ _ (by omega), up_n _ _ (by omega), up_n _ _ (by omega), up_s, up_n _ _ (by omega), up_n _ _ (by omega), up_s, up_n _ _ (by omega), up_s, nv0]
              by_cases q3 : w = 3
              · rw [if_pos q3, if_pos q3, if_pos q3, if_pos q3]
                exact ⟨w3, l0, by omega, rfl, rfl, rfl, rfl, rfl, rfl⟩
              · obtain ⟨l2, l3⟩ := l1 q3
                rw [if_neg q3, if_neg q3, if_neg q3, if_neg q3, hv 1 (n2 q3), l3]
                exact ⟨w3, l0, l2, rfl, rfl, rfl, rfl, rfl, rfl⟩
            · rw [yk4 k q, yf4 k q, ys4 k q, b3 k q, b5 k q, b7 k q, F 34 (by omega) (by omega), F 35 (by omega) (by omega), F 36 (by omega) (by omega), k139, up_n _ _ (by omega), up_n _ _ (by omega), up_n _ _ (by omega), up_n _ _ (by omega), up_n _ _ (by omega), up_n _ _ (by omega), up_n _ _ (by omega), up_n _ _ (by omega), up_n _ _ (by omega), up_n _ _ (by omega), up_n _ _ (by omega), up_n _ _ (by omega)]
              exact t4 k (by omega)
          · have k0 : K 139 0 = zI (m : Int) := by
              unfold yput at k139
              rw [if_neg g8] at k139
              rw [k139]; exact hm
            refine ⟨m, m8, k0, fun hx => ?_⟩
            obtain ⟨hx1, -⟩ := nf_0 _ hx
            obtain ⟨-, hx3⟩ := blm_0 (by omega) hx1
            rw [decide_eq_true_eq] at hx3
            exact absurd hx3 g8
      · exact absurd ok (fun h => erl_ok er h)
    · rcases rr with ⟨ok, -⟩ | ⟨K, q2, e, er2, W, FK2⟩
      · exact absurd ok (fun h => erl_ok er h)
      · rw [erl_one er er2]
        exact ⟨K, e, W, FK2⟩
def DR0 (I : tq_PI) (L : tq_PL) (J : tq_PI) (x : Nat × Int) : Prop := ∃ r l : Int, J 136 9 = zI r ∧ J 136 10 = zI l ∧ (-1 ≤ r ∧ r ≤ 7) ∧ (-1 ≤ l ∧ l ≤ 5) ∧ (x.1 = 0 → ∃ w h tl K, HD I L (J 139) w h tl K r l)
theorem c_full0 (I : tq_PI) (L : tq_PL) : (!FX7_isFull I L 30 (zI ((0 : Nat) : Int))) = true := by
  unfold FX7_isFull
  rw [if_neg (by decide), if_neg (by decide), if_neg (by decide)]
  rfl
theorem c_tell0 {I : tq_PI} {L : tq_PL} (y : Int32) : FX7_tell I L 30 (zI ((0 : Nat) : Int)) y = FX7_tellOfHill I L 30 y := by
  unfold FX7_tell
  rw [if_pos (by decide)]
  cases FX7_tellOfHill I L 30 y <;> rfl
theorem lst_0 (M : tq_PL) : LST M (fun J => FX12_hillLine J M 136) 0 DR0 := by
  intro I L J B n p x C R D h0
  obtain ⟨r, l, h9, h10, hr, hl, hd⟩ := D
  obtain ⟨ra, rb, rc⟩ := r_hillLine (M := M) R h9 h10 hr hl
  refine ⟨fun g => ra ?_, fun g w hw => ?_⟩
  · intro h
    rcases g with g | g
    · exact g h.1
    · rw [kwd_0] at g
      split at g
      · omega
      · rw [if_pos (by omega)] at g
        omega
  · have em : nmn 0 w = 2 := by unfold nmn; rw [if_neg (by omega), if_neg (by omega), if_neg (by omega)]
    rw [em, c_full0, blm_t]
    have nz : ∀ y : Nat × Int, y.1 ≤ 5 → y.1 ≠ 0 → ¬ zI (y.1 : Nat) = (0 : Int32) := fun y h1 h2 => by
      rw [show (0 : Int32) = zI 0 from rfl, zI_eq (by omega) (by omega)]
      omega
    have x5 : x.1 ≤ 5 := C.2.2.2.2.2
    have nf5 := nf_le (B := B) (n := n) (p := tE B n p) (s := 0) (w := w) x5 2
    rw [kwd_0] at hw
    by_cases c1 : tW B n p = 1
    · rw [if_pos c1] at hw
      have w5 : w = 5 := by omega
      subst w5
      have rr := rb ⟨g, c1⟩
      refine ⟨fun ok I1 hv F h11 => ?_, fun q er => ?_⟩
      · rcases rr with ⟨-, K, e, RK2, FK2, k139, k9, k10⟩ | ⟨K, q, -, er, -, -⟩
        · by_cases hx : (nf B n (tE B n p) 0 5 x 2).1 = 0
          · obtain ⟨hx1, hok⟩ := nf_0 _ hx
            obtain ⟨v, u, tl, Q, HH⟩ := hd hx1
            have l0 := of_decide_eq_true (hok 0 (by omega))
            have l1 := of_decide_eq_true (hok 1 (by omega))
            have a0 : nlo 0 5 = 2 := rfl
            have a1 : nhi 0 5 0 = 8 := rfl
            have a2 : nhi 0 5 1 = 6 := rfl
            rw [a0, a1] at l0
            rw [a0, a2] at l1
            have nv0 := nva_ok (hok 0 (by omega))
            have nv1 := nva_ok (hok 1 (by omega))
            rw [nv0, nv1] at k139
            rw [hx] at h11
            obtain ⟨I2, L2, e2, D2, f1, f2⟩ := c_tell_size (A2 := K 139) (HH.any (F 32 (by omega) (by omega))) h11 (hv 0 (by omega)) (hv 1 (by omega)) ⟨l0.1, l0.2, l1.1, l1.2⟩ (by rw [k139, up_n _ _ (by omega), up_s]) (by rw [k139, up_s]) (fun j hj => by rw [k139, up_n _ _ (by omega), up_n _ _ (by omega)])
            refine ⟨K, I2, L2, e, ?_, ⟨f1 _ (by omega), f1 _ (by omega)⟩, RK2, ⟨r, l, k9, k10, hr, hl, fun _ => ⟨_, _, _, _, D2⟩⟩, FK2, fun b hb => f1 b (by unfold psl at hb; omega), fun b hb => f2 b (by unfold psl at hb; omega)⟩
            rw [c_tell0]
            exact e2
          · refine ⟨K, I1, L, e, ?_, ⟨rfl, rfl⟩, RK2, ⟨r, l, k9, k10, hr, hl, fun h => absurd h hx⟩, FK2, FP.rf, FP.rf⟩
            rw [c_tell0, c_tell_f _ (by rw [h11]; exact nz _ nf5 hx)]
        · exact absurd ok (fun h => erl_ok er h)
      · rcases rr with ⟨ok, -⟩ | ⟨K, q2, e, er2, W, FK2⟩
        · exact absurd ok (fun h => erl_ok er h)
        · rw [erl_one er er2]
          exact ⟨K, e, W, FK2⟩
    · rw [if_neg c1] at hw
      have c2 : 2 ≤ tW B n p ∧ tW B n p ≤ 6 ∧ w + 2 = tW B n p := by
        split at hw <;> omega
      have rr := rc ⟨g, c2.1, c2.2.1⟩ w c2.2.2
      have w4 : w ≤ 4 := by omega
      have b0 := nva_b (B := B) (n := n) (p := tE B n p) 0 w4
      have b1 := nva_b (B := B) (n := n) (p := tE B n p) 1 w4
      have hh0 : nhi 0 w 0 = 7 := by unfold nhi; rw [if_neg (by omega), if_neg (by omega), if_neg (by omega), if_neg (by omega), if_pos rfl]
      have hh1 : nhi 0 w 1 = 5 := by unfold nhi; rw [if_neg (by omega), if_neg (by omega), if_neg (by omega), if_neg (by omega), if_neg (by omega)]
      rw [hh0] at b0
      rw [hh1] at b1
      refine ⟨fun ok I1 hv F h11 => ?_, fun q er => ?_⟩
      · rcases rr with ⟨-, K, e, RK2, FK2, k139, k9, k10⟩ | ⟨K, q, -, er, -, -⟩
        · have br : -1 ≤ (if ((nva B n (tE B n p) 0 w 0 : Nat) : Int) ≤ r then r else (nva B n (tE B n p) 0 w 0 : Nat)) ∧ (if ((nva B n (tE B n p) 0 w 0 : Nat) : Int) ≤ r then r else (nva B n (tE B n p) 0 w 0 : Nat)) ≤ 7 := by split <;> omega
          have bl : -1 ≤ (if ((nva B n (tE B n p) 0 w 1 : Nat) : Int) ≤ l then l else (nva B n (tE B n p) 0 w 1 : Nat)) ∧ (if ((nva B n (tE B n p) 0 w 1 : Nat) : Int) ≤ l then l else (nva B n (tE B n p) 0 w 1 : Nat)) ≤ 5 := by split <;> omega
          by_cases hx : (nf B n (tE B n p) 0 w x 2).1 = 0
          · obtain ⟨hx1, hok⟩ := nf_0 _ hx
            obtain ⟨v, u, tl, Q, HH⟩ := hd hx1
            have nv0 := nva_ok (hok 0 (by omega))
            have nv1 := nva_ok (hok 1 (by omega))
            rw [hx] at h11
            obtain ⟨L2, tl2, Q2, e2, D2, f2⟩ := c_tell_cell (A2 := K 139) (c := w) (v := nva B n (tE B n p) 0 w 0) (u := nva B n (tE B n p) 0 w 1) (HH.any (F 32 (by omega) (by omega))) hr.1 hl.1 h11 (by rw [nv0]; exact hv 0 (by omega)) (by rw [nv1]; exact hv 1 (by omega)) b0 b1 w4 (by rw [k139, ← Nat.add_assoc, up_s]) (fun j hj => by rw [k139, up_n _ _ (by omega)]) rfl rfl
            refine ⟨K, I1, L2, e, ?_, ⟨rfl, rfl⟩, RK2, ⟨_, _, k9, k10, br, bl, fun _ => ⟨_, _, _, _, D2⟩⟩, FK2, FP.rf, fun b hb => f2 b (by unfold psl at hb; omega) (by unfold psl at hb; omega)⟩
            rw [c_tell0]
            exact e2
          · refine ⟨K, I1, L, e, ?_, ⟨rfl, rfl⟩, RK2, ⟨_, _, k9, k10, br, bl, fun h => absurd h hx⟩, FK2, FP.rf, FP.rf⟩
            rw [c_tell0, c_tell_f _ (by rw [h11]; exact nz _ nf5 hx)]
        · exact absurd ok (fun h => erl_ok er h)
      · rcases rr with ⟨ok, -⟩ | ⟨K, q2, e, er2, W, FK2⟩
        · exact absurd ok (fun h => erl_ok er h)
        · rw [erl_one er er2]
          exact ⟨K, e, W, FK2⟩
