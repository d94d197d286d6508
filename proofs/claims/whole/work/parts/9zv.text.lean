/-! TEXT: a line in both: talks, logs, years. -/
def LST (M : tq_PL) (ln : tq_PI → Option tq_PI) (s : Nat) (DR : tq_PI → tq_PL → tq_PI → Nat × Int → Prop) : Prop := ∀ (I : tq_PI) (L : tq_PL) (J : tq_PI) (B : Nat → Nat) (n p : Nat) (x : Nat × Int), CRd I B n p x → RRd J B n p x → DR I L J x → tK B n p ≠ 0 → ((tK B n p ≠ 1 ∨ kwd s (tW B n p) = -1) → ∃ K, ln J = some K ∧ WWr K (tS B n p) ∧ FRD J K) ∧ (tK B n p = 1 → ∀ w : Nat, kwd s (tW B n p) = w → (okl B n (tE B n p) (nmn s w) → ∀ I1, (∀ j, j < nmn s w → I1 42 j = zI (tN B n (pp B n (tE B n p) j) : Nat)) → FU2 I I1 → I1 30 11 = zI ((nf B n (tE B n p) s w (blm x (!FX7_isFull I L 30 (zI (s : Int))) 3 (tS B n p)) (nmn s w)).1 : Nat) → ∃ K I2 L2, ln J = some K ∧ FX7_tell I1 L 30 (zI (s : Int)) (zI (w : Int)) = some (I2, L2) ∧ (I2 30 = I1 30 ∧ I2 31 = I1 31) ∧ RRd K B n (tE B n (pp B n (tE B n p) (nmn s w))) (nf B n (tE B n p) s w (blm x (!FX7_isFull I L 30 (zI (s : Int))) 3 (tS B n p)) (nmn s w)) ∧ DR I2 L2 K (nf B n (tE B n p) s w (blm x (!FX7_isFull I L 30 (zI (s : Int))) 3 (tS B n p)) (nmn s w)) ∧ FRD J K ∧ FP I1 I2 ∧ FP L L2) ∧ ∀ q, erl B n (tE B n p) (nmn s w) q → ∃ K, ln J = some K ∧ WWr K q ∧ FRD J K)
section NF
variable {B : Nat → Nat} {n p s w : Nat} {x : Nat × Int}
theorem blm_0 {ok : Bool} {k q : Nat} (hk : k ≠ 0) (h : (blm x ok k q).1 = 0) : x.1 = 0 ∧ ok = true := by
  unfold blm at h
  split at h
  · exact absurd h hk
  · rename_i g
    refine ⟨h, ?_⟩
    cases ok
    · exact absurd ⟨h, rfl⟩ g
    · rfl
theorem nf_0 : ∀ i, (nf B n p s w x i).1 = 0 → x.1 = 0 ∧ ∀ j, j < i → nok s w j (tN B n (pp B n p j)) = true
  | 0, h => ⟨h, fun j hj => absurd hj (Nat.not_lt_zero j)⟩
  | i + 1, h => by
    obtain ⟨h1, h2⟩ := blm_0 (by omega) (show (blm (nf B n p s w x i) (nok s w i (tN B n (pp B n p i))) 2 (tS B n (pp B n p i))).1 = 0 from h)
    obtain ⟨g1, g2⟩ := nf_0 i h1
    refine ⟨g1, fun j hj => ?_⟩
    by_cases q : j = i
    · subst q; exact h2
    · exact g2 j (by omega)
theorem nva_ok {i : Nat} (h : nok s w i (tN B n (pp B n p i)) = true) : nva B n p s w i = tN B n (pp B n p i) := by
  unfold nok at h
  rw [decide_eq_true_eq] at h
  unfold nva
  rw [if_pos h]
theorem blm_cg {a b : Bool} {k q : Nat} (h : x.1 = 0 → a = b) : blm x a k q = blm x b k q := by
  unfold blm
  by_cases g : x.1 = 0
  · rw [h g]
  · rw [if_neg (fun h => g h.1), if_neg (fun h => g h.1)]
theorem kwd_3 (c : Nat) : kwd 3 c = if c = 11 then 0 else -1 := rfl
theorem kwd_2 (c : Nat) : kwd 2 c = if c = 10 then 0 else -1 := rfl
theorem kwd_1 (c : Nat) : kwd 1 c = if c = 7 then 0 else if c = 8 then 1 else if c = 6 then 2 else if c = 9 then 3 else -1 := rfl
theorem kwd_0 (c : Nat) : kwd 0 c = if c = 1 then 5 else if 2 ≤ c ∧ c ≤ 6 then (c : Int) - 2 else -1 := rfl
end NF
def DR3 (I : tq_PI) (_ : tq_PL) (J : tq_PI) (x : Nat × Int) : Prop := ∃ m : Nat, m ≤ 8 ∧ J 139 0 = zI (m : Int) ∧ (x.1 = 0 → ∃ tw, TD I 40 (J 139) 0 m tw)
def DR2 (I : tq_PI) (_ : tq_PL) (J : tq_PI) (x : Nat × Int) : Prop := ∃ m : Nat, m ≤ 8 ∧ J 139 0 = zI (m : Int) ∧ (x.1 = 0 → ∃ lc lh, LD I 37 (J 139) 0 m lc lh)
def DR1 (I : tq_PI) (_ : tq_PL) (J : tq_PI) (x : Nat × Int) : Prop := ∃ m : Nat, m ≤ 40 ∧ J 139 0 = zI (m : Int) ∧ (x.1 = 0 → ∃ yk yf ys, YD I 33 (J 139) 0 m yk yf ys)
theorem c_full3 {I : tq_PI} {L : tq_PL} {m : Nat} (h : I 40 0 = zI (m : Int)) (hm : m ≤ 8) : (!FX7_isFull I L 30 (zI ((3 : Nat) : Int))) = decide (m < 8) := by
  unfold FX7_isFull
  rw [if_neg (by decide), if_neg (by decide), if_pos (by decide), rg_30.2.2.2]
  by_cases g : m < 8
  · rw [if_pos (by rw [h, zI_lit, zI_lt (by omega) (by omega)]; omega), decide_eq_true g]; rfl
  · rw [if_neg (by rw [h, zI_lit, zI_lt (by omega) (by omega)]; omega), decide_eq_false g]; rfl
theorem c_full2 {I : tq_PI} {L : tq_PL} {m : Nat} (h : I 37 0 = zI (m : Int)) (hm : m ≤ 8) : (!FX7_isFull I L 30 (zI ((2 : Nat) : Int))) = decide (m < 8) := by
  unfold FX7_isFull
  rw [if_neg (by decide), if_pos (by decide), rg_30.2.2.1]
  by_cases g : m < 8
  · rw [if_pos (by rw [h, zI_lit, zI_lt (by omega) (by omega)]; omega), decide_eq_true g]; rfl
  · rw [if_neg (by rw [h, zI_lit, zI_lt (by omega) (by omega)]; omega), decide_eq_false g]; rfl
theorem c_full1 {I : tq_PI} {L : tq_PL} {m : Nat} (h : I 33 0 = zI (m : Int)) (hm : m ≤ 40) : (!FX7_isFull I L 30 (zI ((1 : Nat) : Int))) = decide (m < 40) := by
  unfold FX7_isFull
  rw [if_pos (by decide), rg_30.2.1]
  by_cases g : m < 40
  · rw [if_pos (by rw [h, zI_lit, zI_lt (by omega) (by omega)]; omega), decide_eq_true g]; rfl
  · rw [if_neg (by rw [h, zI_lit, zI_lt (by omega) (by omega)]; omega), decide_eq_false g]; rfl
theorem lst_3 (M : tq_PL) : LST M (fun J => FX12_talkLine J M 136) 3 DR3 := by
  intro I L J B n p x C R D h0
  obtain ⟨m, m8, hm, hd⟩ := D
  obtain ⟨ra, rb⟩ := r_talkLine (M := M) R hm m8
  refine ⟨fun g => ra ?_, fun g w hw => ?_⟩
  · intro h
    rcases g with g | g
    · exact g h.1
    · rw [kwd_3, if_pos h.2] at g; omega
  · have w0 : tW B n p = 11 ∧ w = 0 := by
      rw [kwd_3] at hw
      split at hw
      · exact ⟨by assumption, by omega⟩
      · omega
    obtain ⟨w1, rfl⟩ := w0
    have em : nmn 3 0 = 1 := rfl
    rw [em]
    have rr := rb ⟨g, w1⟩
    refine ⟨fun ok I1 hv F h11 => ?_, fun q er => ?_⟩
    · rcases rr with ⟨-, K, e, RK2, FK2, k139⟩ | ⟨K, q, -, er, -, -⟩
      · have ex : blm x (!FX7_isFull I L 30 (zI ((3 : Nat) : Int))) 3 (tS B n p) = blm x (decide (m < 8)) 3 (tS B n p) := blm_cg fun hx => by
          obtain ⟨tw, T⟩ := hd hx
          exact c_full3 T.2.1 m8
        rw [ex]
        obtain ⟨I2, e2, f2, a2⟩ := c_add9 (J := I1) (L := L) (I1 42 0)
        refine ⟨K, I2, L, e, ?_, ⟨f2 _ (by omega) (by omega), f2 _ (by omega) (by omega)⟩, RK2, ?_, FK2, fun b hb => f2 b (by unfold psl at hb; omega) (by unfold psl at hb; omega), FP.rf⟩
        · unfold FX7_tell
          rw [if_neg (by decide), if_neg (by decide), if_neg (by decide), if_pos i01_3.1, rg_30_5, rg_30.2.2.2, e0n, e2, obind]
        · by_cases g8 : m < 8
          · unfold tput at k139
            rw [if_pos g8] at k139
            have k0 : K 139 0 = zI ((m + 1 : Nat) : Int) := by rw [k139, up_s]
            refine ⟨m + 1, by omega, k0, fun hx => ?_⟩
            obtain ⟨hx1, hok⟩ := nf_0 _ hx
            obtain ⟨hx2, -⟩ := blm_0 (by omega) hx1
            obtain ⟨tw, t1, t2, t3, t4⟩ := hd hx2
            have vl := tN_le (ok.1 0 (by omega))
            have nv0 := nva_ok (hok 0 (by omega))
            obtain ⟨b1, b2, b3⟩ := a2 m g8 (by rw [F 40 (by omega) (by omega)]; exact t2)
            refine ⟨fun k => if k = m then tN B n (pp B n (tE B n p) 0) else tw k, by omega, b1, k0, fun k hk => ?_⟩
            dsimp only
            by_cases q : k = m
            · subst q
              rw [if_pos rfl, b2, hv 0 (by omega), k139, Nat.zero_add, up_n _ _ (by omega), up_s, nv0]
              exact ⟨vl, rfl, rfl⟩
            · rw [if_neg q, b3 k q, F 41 (by omega) (by omega), k139, up_n _ _ (by omega), up_n _ _ (by omega)]
              exact t4 k (by omega)
          · have k0 : K 139 0 = zI (m : Int) := by
              unfold tput at k139
              rw [if_neg g8] at k139
              rw [k139]; exact hm
            refine ⟨m, m8, k0, fun hx => ?_⟩
            obtain ⟨hx1, -⟩ := nf_0 _ hx
            obtain ⟨-, hx3⟩ := blm_0 (by omega) hx1
            rw [decide_eq_true_eq] at hx3
            exact absurd hx3 g8
      · exact absurd ok (fun h => erl_ok er h)
    · rcases rr with ⟨ok, -⟩ | ⟨K, q2, e, er2, W, FK2⟩
      · exact absurd ok (fun h => erl_ok er h)
      · rw [erl_one er er2]
        exact ⟨K, e, W, FK2⟩
theorem lst_2 (M : tq_PL) : LST M (fun J => FX12_logLine J M 136) 2 DR2 := by
  intro I L J B n p x C R D h0
  obtain ⟨m, m8, hm, hd⟩ := D
  obtain ⟨ra, rb⟩ := r_logLine (M := M) R hm m8
  refine ⟨fun g => ra ?_, fun g w hw => ?_⟩
  · intro h
    rcases g with g | g
    · exact g h.1
    · rw [kwd_2, if_pos h.2] at g; omega
  · have w0 : tW B n p = 10 ∧ w = 0 := by
      rw [kwd_2] at hw
      split at hw
      · exact ⟨by assumption, by omega⟩
      · omega
    obtain ⟨w1, rfl⟩ := w0
    have em : nmn 2 0 = 3 := rfl
    rw [em]
    have rr := rb ⟨g, w1⟩
    refine ⟨fun ok I1 hv F h11 => ?_, fun q er => ?_⟩
    · rcases rr with ⟨-, K, e, RK2, FK2, k139⟩ | ⟨K, q, -, er, -, -⟩
      · have ex : blm x (!FX7_isFull I L 30 (zI ((2 : Nat) : Int))) 3 (tS B n p) = blm x (decide (m < 8)) 3 (tS B n p) := blm_cg fun hx => by
          obtain ⟨lc, lh, T⟩ := hd hx
          exact c_full2 T.2.1 m8
        rw [ex]
        obtain ⟨I2, e2, f2, a2⟩ := c_add4 (J := I1) (L := L) ((8 : Int32) * I1 42 1 + I1 42 0) (I1 42 2)
        refine ⟨K, I2, L, e, ?_, ⟨f2 _ (by omega) (by omega) (by omega), f2 _ (by omega) (by omega) (by omega)⟩, RK2, ?_, FK2, fun b hb => f2 b (by unfold psl at hb; omega) (by unfold psl at hb; omega) (by unfold psl at hb; omega), FP.rf⟩
        · unfold FX7_tell
          rw [if_neg (by decide), if_neg (by decide), if_pos (by decide), if_pos i01_3.2.1, if_pos i01_3.1, if_pos i01_3.2.2, rg_30_5, rg_30.2.2.1, e0n, e1n, show (2 : Int32).toNatClampNeg = 2 by decide, e2, obind]
        · by_cases g8 : m < 8
          · unfold lput at k139
            rw [if_pos g8] at k139
            have k0 : K 139 0 = zI ((m + 1 : Nat) : Int) := by rw [k139, up_s]
            refine ⟨m + 1, by omega, k0, fun hx => ?_⟩
            obtain ⟨hx1, hok⟩ := nf_0 _ hx
            obtain ⟨hx2, -⟩ := blm_0 (by omega) hx1
            obtain ⟨lc, lh, t1, t2, t3, t4⟩ := hd hx2
            have nv0 := nva_ok (hok 0 (by omega))
            have nv1 := nva_ok (hok 1 (by omega))
            have nv2 := nva_ok (hok 2 (by omega))
            have l0 : tN B n (pp B n (tE B n p) 0) ≤ 7 := (of_decide_eq_true (hok 0 (by omega))).2
            have l1 : tN B n (pp B n (tE B n p) 1) ≤ 5 := (of_decide_eq_true (hok 1 (by omega))).2
            have l2 : tN B n (pp B n (tE B n p) 2) ≤ 9 := (of_decide_eq_true (hok 2 (by omega))).2
            have ec : (8 : Int32) * zI (tN B n (pp B n (tE B n p) 1) : Nat) + zI (tN B n (pp B n (tE B n p) 0) : Nat) = zI ((8 * tN B n (pp B n (tE B n p) 1) + tN B n (pp B n (tE B n p) 0) : Nat) : Int) := by
              rw [show (8 : Int32) = zI 8 from rfl, zI_mul, zI_add]; congr 1
            obtain ⟨b1, ⟨b2, b3⟩, b4, b5⟩ := a2 m g8 (by rw [F 37 (by omega) (by omega)]; exact t2)
            refine ⟨fun k => if k = m then 8 * tN B n (pp B n (tE B n p) 1) + tN B n (pp B n (tE B n p) 0) else lc k, fun k => if k = m then tN B n (pp B n (tE B n p) 2) else lh k, by omega, b1, k0, fun k hk => ?_⟩
            dsimp only
            by_cases q : k = m
            · subst q
              rw [if_pos rfl, if_pos rfl, b2, b4, hv 0 (by omega), hv 1 (by omega), hv 2 (by omega), k139, Nat.zero_add, Nat.zero_add, up_n _ _ (by omega), up_n _ _ (by omega), up_s, up_n _ _ (by omega), up_s, nv0, nv1, nv2, ec]
              exact ⟨by omega, l2, rfl, rfl, rfl, rfl⟩
            · rw [if_neg q, if_neg q, b3 k q, b5 k q, F 38 (by omega) (by omega), F 39 (by omega) (by omega), k139, up_n _ _ (by omega), up_n _ _ (by omega), up_n _ _ (by omega), up_n _ _ (by omega), up_n _ _ (by omega), up_n _ _ (by omega)]
              exact t4 k (by omega)
          · have k0 : K 139 0 = zI (m : Int) := by
              unfold lput at k139
              rw [if_neg g8] at k139
              rw [k139]; exact hm
            refine ⟨m, m8, k0, fun hx => ?_⟩
            obtain ⟨hx1, -⟩ := nf_0 _ hx
            obtain ⟨-, hx3⟩ := blm_0 (by omega) hx1
            rw [decide_eq_true_eq] at hx3
            exact absurd hx3 g8
      · exact absurd ok (fun h => erl_ok er h)
    · rcases rr with ⟨ok, -⟩ | ⟨K, q2, e, er2, W, FK2⟩
      · exact absurd ok (fun h => erl_ok er h)
      · rw [erl_one er er2]
        exact ⟨K, e, W, FK2⟩
