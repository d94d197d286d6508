/-! TEXT: lines of talks, logs and years by the reference. -/
theorem g11 : tq_rg 136 11 = 139 := by decide +kernel
theorem i0_121 : (0 : Int32) ≤ 0 ∧ (0 : Int32) < 121 := by decide
theorem i1_121 : (0 : Int32) ≤ 1 ∧ (1 : Int32) < 121 := by decide
/-- a state with other data -/
def FDt (I J : tq_PI) : Prop := ∀ b j, b ≠ 139 → (b ≠ 136 ∨ (j ≠ 9 ∧ j ≠ 10)) → J b j = I b j
def FRD (I J : tq_PI) : Prop := ∀ b j, b ≠ 139 → (b ≠ 136 ∨ j < 3 ∨ 11 ≤ j) → (b ≠ 137 ∨ (j ≠ 5 ∧ j ≠ 6)) → J b j = I b j
def nva (B : Nat → Nat) (n p s w i : Nat) : Nat := if nlo s w ≤ tN B n (pp B n p i) ∧ tN B n (pp B n p i) ≤ nhi s w i then tN B n (pp B n p i) else nlo s w
theorem nhi_le {s w i : Nat} : nhi s w i ≤ 99 := by
  unfold nhi
  repeat' (first | omega | split)
theorem nlo_le {s w : Nat} : nlo s w ≤ 2 := by
  unfold nlo
  repeat' (first | omega | split)
section RX
variable {I J : tq_PI} {M : tq_PL} {B : Nat → Nat} {n p s w : Nat} {x : Nat × Int}
theorem FDt.rf : FDt I I := fun _ _ _ _ => rfl
theorem FDt.tr {J K : tq_PI} (h : FDt I J) (k : FDt J K) : FDt I K := fun b j q r => (k b j q r).trans (h b j q r)
theorem FDt.up {j : Nat} {y : Int32} : FDt I (tq_up2 I 139 j y) := fun b i q _ => by rw [up_n _ _ (by omega)]
theorem FDt.up9 {y : Int32} : FDt I (tq_up2 I 136 9 y) := fun b i q _ => by rw [up_n _ _ (by omega)]
theorem FDt.up10 {y : Int32} : FDt I (tq_up2 I 136 10 y) := fun b i q _ => by rw [up_n _ _ (by omega)]
theorem FRD.rf : FRD I I := fun _ _ _ _ _ => rfl
theorem FRD.tr {J K : tq_PI} (h : FRD I J) (k : FRD J K) : FRD I K := fun b j q r t => (k b j q r t).trans (h b j q r t)
theorem FRl.rd (F : FRl I J) : FRD I J := fun b j _ r t => F b j (by omega) t
theorem FDt.rd (F : FDt I J) : FRD I J := fun b j q r _ => F b j q (by omega)
theorem FRl.r139 (F : FRl I J) : J 139 = I 139 := funext fun j => F _ _ (by omega) (by omega)
theorem RRd.fd {K : tq_PI} (R : RRd J B n p x) (F : FDt J K) : RRd K B n p x := by
  obtain ⟨r1, r2, r3, r4, r5, r6, r7, r8⟩ := R
  exact ⟨r1.any (F _ _ (by omega) (by omega)) (fun i => F _ _ (by omega) (by omega)), r2, r3.any (fun j _ _ => F _ _ (by omega) (by omega)), by rw [F _ _ (by omega) (by omega)]; exact r4, by rw [F _ _ (by omega) (by omega)]; exact r5, by rw [F _ _ (by omega) (by omega)]; exact r6, r7, r8⟩
theorem WWr.fd {K : tq_PI} {q : Nat} (W : WWr J q) (F : FDt J K) : WWr K q := ⟨by rw [F _ _ (by omega) (by omega)]; exact W.1, by rw [F _ _ (by omega) (by omega)]; exact W.2.1, by rw [F _ _ (by omega) (by omega)]; exact W.2.2⟩
theorem r_numI {i : Nat} (R : RRd J B n (pp B n p i) (nf B n p s w x i)) : (tK B n (pp B n p i) = 2 ∧ ∃ K, FX12_numbered J M 136 (zI (nlo s w : Nat)) (zI (nhi s w i : Nat)) = some (zI (nva B n p s w i : Nat), K) ∧ RRd K B n (pp B n p (i + 1)) (nf B n p s w x (i + 1)) ∧ FRl J K) ∨ (tK B n (pp B n p i) ≠ 2 ∧ ∃ K, FX12_numbered J M 136 (zI (nlo s w : Nat)) (zI (nhi s w i : Nat)) = some (zI (nlo s w : Nat), K) ∧ WWr K (tS B n (pp B n p i)) ∧ FRl J K) := by
  have h1 := nhi_le (s := s) (w := w) (i := i)
  have h2 := nlo_le (s := s) (w := w)
  obtain ⟨a, b⟩ := r_numd (M := M) R (lo := nlo s w) (hi := nhi s w i) h1 (by omega)
  by_cases g : tK B n (pp B n p i) = 2
  · exact Or.inl ⟨g, a g⟩
  · exact Or.inr ⟨g, b g⟩
theorem erl_one {m a b : Nat} (h : erl B n p m a) (k : erl B n p m b) : a = b := by
  obtain ⟨i, i1, i2, i3, i4, i5⟩ := h
  obtain ⟨j, j1, j2, j3, j4, j5⟩ := k
  have : i = j := by
    rcases Nat.lt_trichotomy i j with h | h | h
    · exact absurd (j2 i h) (i4 (by omega))
    · exact h
    · exact absurd (i2 j h) (j4 (by omega))
  rw [i3, j3, this]
theorem erl_ok {m a : Nat} (h : erl B n p m a) (k : okl B n p m) : False := by
  obtain ⟨i, i1, i2, i3, i4, i5⟩ := h
  by_cases g : i = m
  · exact i5 g (by rw [g]; exact k.2)
  · exact i4 (by omega) (k.1 i (by omega))
theorem blm_t {k q : Nat} : blm x true k q = x := by unfold blm; rw [if_neg (by simp)]
/-- a line's end -/
theorem r_fin {m : Nat} (hj : ∀ j, j < m → tK B n (pp B n p j) = 2) (R : RRd J B n (pp B n p m) x) : (okl B n p m ∧ ∃ K, FX12_endsLine J M 136 = some K ∧ RRd K B n (tE B n (pp B n p m)) x ∧ FRl J K) ∨ ∃ K q, FX12_endsLine J M 136 = some K ∧ erl B n p m q ∧ WWr K q ∧ FRl J K := by
  obtain ⟨a, b⟩ := r_endl (M := M) R
  by_cases g : tK B n (pp B n p m) = 3
  · exact Or.inl ⟨⟨hj, g⟩, a g⟩
  · obtain ⟨K, e, W, F⟩ := b g
    exact Or.inr ⟨K, _, e, ⟨m, Nat.le_refl _, hj, rfl, fun h => absurd h (Nat.lt_irrefl _), fun _ => g⟩, W, F⟩
theorem erl_at {m i : Nat} (hi : i < m) (hj : ∀ j, j < i → tK B n (pp B n p j) = 2) (h : tK B n (pp B n p i) ≠ 2) : erl B n p m (tS B n (pp B n p i)) := ⟨i, by omega, hj, rfl, fun _ => h, fun e => by omega⟩
/-- a full sort -/
theorem r_full {d : Nat} {ok : Bool} (R : RRd J B n p x) (hd : d < p) (hx : x.1 ≠ 0 → 0 ≤ x.2 ∧ x.2 < d) : ∃ K, (if ok = true then some J else FX12_also J M 136 (3 : Int32) (zI (d : Int))) = some K ∧ RRd K B n p (blm x ok 3 d) ∧ FRl J K := by
  have R0 := R
  obtain ⟨r1, r2, r3, r4, r5, r6, r7, r8⟩ := R0
  have c600 := r1.1
  cases ok
  · obtain ⟨K, e, h5, h6, F⟩ := r_also (M := M) (k := 3) (q := d) r4 r5 r6 r7 hx (by omega)
    refine ⟨K, ?_, R.bl (by omega) hd h5 h6 F, fun b j _ r => F b j r⟩
    rw [if_neg (by simp)]
    exact e
  · refine ⟨J, ?_, by rw [blm_t]; exact R, FRl.rf⟩
    rw [if_pos rfl]
/-! talks -/
noncomputable def tput (S : tq_PI) (m : Nat) (v : Int32) : tq_PI := if m < 8 then tq_up2 (tq_up2 S 139 (1 + m) v) 139 0 (zI ((m + 1 : Nat) : Int)) else S
theorem tput_fd (S : tq_PI) (m : Nat) (v : Int32) : FDt S (tput S m v) := by
  unfold tput
  split
  · exact FDt.up.tr FDt.up
  · exact FDt.rf
theorem r_talk38 {S : tq_PI} {v : Int32} {m : Nat} (e : FX12_numbered J M 136 (0 : Int32) (99 : Int32) = some (v, S)) (h : S 139 0 = zI (m : Int)) (m8 : m ≤ 8) : FX12_talkLine_j38 J M 136 = FX12_endsLine (tput S m v) M 136 := by
  have ob : ∀ o : Option tq_PI, (o.bind fun p6 => some p6) = o := fun o => by cases o <;> rfl
  unfold FX12_talkLine_j38 FX12_talkLine_j81 tput
  rw [e, obind, if_pos i0_121, if_pos i0_121, if_pos i0_121, if_pos i0_121, g11, e0n]
  by_cases g : m < 8
  · have en : ((1 : Int32) + zI (m : Int)).toNatClampNeg = 1 + m := by rw [show (1 : Int32) = zI 1 from rfl, zI_add, zI_cl (by omega)]; omega
    rw [if_neg (by show ¬ (8 : Int32) ≤ S 139 0; rw [h, zI_lit, zI_le (by omega) (by omega)]; omega), if_pos (by show (0 : Int32) ≤ 1 + S 139 0 ∧ 1 + S 139 0 < 121; rw [h, show (1 : Int32) = zI 1 from rfl, zI_add]; exact ⟨by rw [show (0 : Int32) = zI 0 from rfl, zI_le (by omega) (by omega)]; omega, by rw [zI_lit, zI_lt (by omega) (by omega)]; omega⟩), ob, if_pos g]
    dsimp only
    rw [h, en, up_n _ _ (by omega), h, z_suc]
  · rw [if_pos (by show (8 : Int32) ≤ S 139 0; rw [h, zI_lit, zI_le (by omega) (by omega)]; omega), ob, if_neg g]
theorem r_talkLine {m : Nat} (R : RRd J B n p x) (h : J 139 0 = zI (m : Int)) (m8 : m ≤ 8) : (¬ (tK B n p = 1 ∧ tW B n p = 11) → ∃ K, FX12_talkLine J M 136 = some K ∧ WWr K (tS B n p) ∧ FRD J K) ∧ (tK B n p = 1 ∧ tW B n p = 11 → (okl B n (tE B n p) 1 ∧ ∃ K, FX12_talkLine J M 136 = some K ∧ RRd K B n (tE B n (pp B n (tE B n p) 1)) (nf B n (tE B n p) 3 0 (blm x (decide (m < 8)) 3 (tS B n p)) 1) ∧ FRD J K ∧ K 139 = (tput J m (zI (nva B n (tE B n p) 3 0 0 : Nat))) 139) ∨ ∃ K q, FX12_talkLine J M 136 = some K ∧ erl B n (tE B n p) 1 q ∧ WWr K q ∧ FRD J K) := by
  obtain ⟨wa, wb⟩ := r_word (M := M) R (a := 11) (b := 11) (by omega) (by omega)
  have t139 : ∀ (S : tq_PI) (v : Int32), S 139 = J 139 → (tput S m v) 139 = (tput J m v) 139 := fun S v hS => by
    unfold tput
    split
    · funext j
      unfold tq_up2
      rw [hS]
    · exact hS
  refine ⟨fun g => ?_, fun g => ?_⟩
  · obtain ⟨K, e, W, F⟩ := wb (by omega)
    have e' : FX12_wordIn J M 136 (11 : Int32) (11 : Int32) = some (0, K) := e
    have hK : K 139 0 = zI (m : Int) := by rw [F.r139]; exact h
    unfold FX12_talkLine
    rw [e', obind, if_neg (by show ¬ K 136 8 = 0; rw [W.1]; decide), r_talk38 (r_numd_w W 0 99) hK m8, r_endl_w (W.fd (tput_fd K m 0))]
    exact ⟨_, rfl, W.fd (tput_fd K m 0), F.rd.tr (tput_fd K m 0).rd⟩
  · obtain ⟨K, e, R1, F⟩ := wa (by omega)
    have e' : FX12_wordIn J M 136 (11 : Int32) (11 : Int32) = some (zI (tW B n p : Nat), K) := e
    have hK : K 139 0 = zI (m : Int) := by rw [F.r139]; exact h
    have gt := tE_gt (B := B) (n := n) (p := p) (by omega)
    have sg := tS_ge (B := B) (n := n) (p := p)
    obtain ⟨K2, e2, R2, F2⟩ := r_full (M := M) (ok := decide (m < 8)) (d := tS B n p) R1 gt (fun h => by have := R.2.2.2.2.2.2.2 h; omega)
    have hK2 : K2 139 0 = zI (m : Int) := by rw [F2.r139]; exact hK
    have step : FX12_talkLine J M 136 = FX12_talkLine_j38 K2 M 136 := by
      unfold FX12_talkLine
      rw [e', obind, if_pos R1.2.2.2.1, if_pos i0_121, g11, e0n, R.2.2.1.2.1]
      by_cases q : m < 8
      · rw [decide_eq_true q, if_pos rfl] at e2
        rw [if_pos (by show K 139 0 < (8 : Int32); rw [hK, zI_lit, zI_lt (by omega) (by omega)]; omega), Option.some.inj e2]
      · rw [decide_eq_false q, if_neg (by simp)] at e2
        rw [if_neg (by show ¬ K 139 0 < (8 : Int32); rw [hK, zI_lit, zI_lt (by omega) (by omega)]; omega), e2, obind]
    rw [step]
    rcases r_numI (M := M) (J := K2) (B := B) (n := n) (p := tE B n p) (s := 3) (w := 0) (x := blm x (decide (m < 8)) 3 (tS B n p)) (i := 0) R2 with ⟨k2, K3, e3, R3, F3⟩ | ⟨k2, K3, e3, W3, F3⟩
    · have e3' : FX12_numbered K2 M 136 (0 : Int32) (99 : Int32) = some (zI (nva B n (tE B n p) 3 0 0 : Nat), K3) := e3
      have hK3 : K3 139 0 = zI (m : Int) := by rw [F3.r139]; exact hK2
      rw [r_talk38 e3' hK3 m8]
      have Fp := tput_fd K3 m (zI (nva B n (tE B n p) 3 0 0 : Nat))
      have FF := ((F.rd.tr F2.rd).tr F3.rd).tr Fp.rd
      rcases r_fin (M := M) (J := tput K3 m (zI (nva B n (tE B n p) 3 0 0 : Nat))) (p := tE B n p) (m := 1) (fun j hj => by rw [show j = 0 by omega]; exact k2) (R3.fd Fp) with ⟨ok, K4, e4, R4, F4⟩ | ⟨K4, q, e4, er, W4, F4⟩
      · refine Or.inl ⟨ok, K4, e4, R4, FF.tr F4.rd, ?_⟩
        rw [F4.r139, t139 K3 _ (by rw [F3.r139, F2.r139, F.r139])]
      · exact Or.inr ⟨K4, q, e4, er, W4, FF.tr F4.rd⟩
    · have e3' : FX12_numbered K2 M 136 (0 : Int32) (99 : Int32) = some (zI (nlo 3 0 : Nat), K3) := e3
      have hK3 : K3 139 0 = zI (m : Int) := by rw [F3.r139]; exact hK2
      have Fp := tput_fd K3 m (zI (nlo 3 0 : Nat))
      rw [r_talk38 e3' hK3 m8, r_endl_w (W3.fd Fp)]
      exact Or.inr ⟨_, _, rfl, erl_at (by omega) (fun j hj => by omega) k2, W3.fd Fp, ((F.rd.tr F2.rd).tr F3.rd).tr Fp.rd⟩
end RX
