/-! DUEL, by the reference: the first turn; the query. -/
section RD
variable {w h : Nat} {K : Nat → Nat}
theorem plx_lt (k : wh w h) {c d : Nat} (q : c < d) (hd : d ≤ w * h) : plx w h c < plx w h d := by
  have p := pl_48 k (c := c) (by omega)
  unfold plx
  rw [if_neg (by omega)]
  split
  · omega
  · exact pl_lt k q
theorem plx_cd (k : wh w h) {c : Nat} (hc : c ≤ w * h) : cd w h (plx w h c) = c := by
  unfold cd plx
  by_cases q : c = w * h
  · rw [if_pos q, if_pos rfl, q]
  · have p := pl_48 k (c := c) (by omega)
    rw [if_neg q, if_neg (by omega), cl_pl k]
def XCd (w h i q r : Nat) : Prop := r = 0 ∧ ∃ c, c < i ∧ plx w h c = q
def DI (w h : Nat) (K : Nat → Nat) (n i : Nat) (x f : Int32) : Prop := ∃ v q, PI (fun q _ => fd w h K n q) (XCd w h i) v q 0 ∧ (-1 ≤ v ∧ v ≤ 1100) ∧ (v = -1 → f = zI (-1)) ∧ (0 ≤ v → (f = zI (cd w h q : Nat) ∧ cd w h q ≤ 48) ∧ x = zI (v - 999))
theorem fd_al (k : wh w h) {n c : Nat} (hc : c ≤ w * h) (a : al w h K 0 c) : fd w h K n (plx w h c) = wb K (plx w h c) - gn w h (n - 1) (kb h K (plx w h c)) 1 + 999 := by
  by_cases q : c = w * h
  · have hp : plx w h c = 48 := by unfold plx; rw [if_pos q]
    rw [hp]
    unfold fd kb wb
    rw [if_neg (by omega), if_pos rfl, if_pos rfl, if_pos rfl]
    omega
  · have p := pl_48 k (c := c) (by omega)
    have hp : plx w h c = pl w c := by unfold plx; rw [if_neg q]
    rw [hp]
    rcases a with a | a
    · exact absurd a q
    · unfold fd kb wb
      rw [if_pos p, if_pos a, if_neg (by omega), if_neg (by omega)]
theorem fd_na (k : wh w h) {n c : Nat} (hc : c ≤ w * h) (a : ¬ al w h K 0 c) : fd w h K n (plx w h c) = -1 := by
  unfold al at a
  have q : ¬ c = w * h := fun g => a (Or.inl g)
  have p := pl_48 k (c := c) (by omega)
  have hp : plx w h c = pl w c := by unfold plx; rw [if_neg q]
  rw [hp]
  unfold fd
  rw [if_pos p, if_neg (fun g => a (Or.inr g))]
theorem r_dstep {J : tq_PI} {i n : Nat} {x : Int32} (m : Int64) (R : RW J w h) (G : GR J w h 0 K) (L : tq_PL) (hn : 1 ≤ n ∧ n ≤ 3) (hi : i ≤ w * h) (a : al w h K 0 i) (B : DI w h K n i x (J 136 31)) : ∃ J2 L2 x2, FX12_duels_j64L28 J L 136 (zI (n : Int)) m x (zI (i : Int)) = some (.inl (x2, zI (i : Int) + 1, J2, L2)) ∧ (∃ Ja, FN 0 J Ja ∧ (J2 = Ja ∨ ∃ y, J2 = tq_up2 Ja 136 31 y)) ∧ FM 1 L L2 ∧ DI w h K n (i + 1) x2 (J2 136 31) := by
  have k := R.2.2
  have h48 := wh_le k
  obtain ⟨J1, e1, F1, G1⟩ := r_brings (s := 0) R G (by omega) L (by omega) hi
  rw [if_pos rfl] at e1
  have e1' : FX12_brings J L 136 (0 : Int32) (0 : Int32) (zI (i : Int)) = some (zI (wb K (plx w h i)), J1) := e1
  have R1 := R.fn F1.fn
  have core : ∀ J2 L2, FN 0 J J2 → FM 1 L L2 → ∃ J3 x2, FX12_duels_j101L28 J2 L2 136 (zI (n : Int)) m x (zI (i : Int)) (zI (-(gn w h (n - 1) (kb h K (plx w h i)) 1))) (zI (wb K (plx w h i))) = some (.inl (x2, zI (i : Int) + 1, J3, L2)) ∧ (J3 = J2 ∨ ∃ y, J3 = tq_up2 J2 136 31 y) ∧ DI w h K n (i + 1) x2 (J3 136 31) := fun J2 L2 F2 N2 => by
    have r1 := gn_rg w h (n - 1) (kb h K (plx w h i)) 1
    have r2 := wb_rg K (plx w h i)
    have e31 : J2 136 31 = J 136 31 := F2 136 31 (by omega) (by omega)
    obtain ⟨v, q, P, v1, v2, v3⟩ := B
    have fe := fd_al (n := n) k hi a
    have A := PI.add (s := plx w h i) (t := 0) (Y := XCd w h (i + 1)) (fun a b => (fd_rg w h K n a).1) P (fun a b y => by
      obtain ⟨y1, c, hc, rfl⟩ := y
      exact Or.inl (plx_lt k hc hi)) (fun a b y => by
      obtain ⟨y1, c, hc, y2⟩ := y
      exact ⟨y1, c, by omega, y2⟩) (fun a b y => by
      obtain ⟨y1, c, hc, rfl⟩ := y
      by_cases g : c = i
      · right; right; rw [g]; exact ⟨rfl, y1⟩
      · left; exact ⟨y1, c, by omega, rfl⟩) ⟨rfl, i, by omega, rfl⟩
    have rr := fd_rg w h K n (plx w h i)
    unfold FX12_duels_j101L28
    rw [zI_add, e31]
    by_cases z : v = -1
    · rw [if_pos (show J 136 31 = (-1 : Int32) from v2 z)]
      rw [if_pos (by omega)] at A
      refine ⟨_, _, rfl, Or.inr ⟨_, rfl⟩, _, _, A, by omega, fun g => by omega, fun _ => ⟨⟨?_, ?_⟩, ?_⟩⟩
      · rw [up_s, plx_cd k hi]
      · rw [plx_cd k hi]; omega
      · congr 1; omega
    · obtain ⟨⟨v4, v6⟩, v5⟩ := v3 (by omega)
      rw [if_neg (by rw [v4, show (-1 : Int32) = zI (-1) from rfl, zI_eq (by omega) (by omega)]; omega)]
      subst v5
      by_cases g : v < fd w h K n (plx w h i)
      · rw [if_pos (by rw [zI_lt (by omega) (by omega)]; omega)]
        rw [if_pos g] at A
        refine ⟨_, _, rfl, Or.inr ⟨_, rfl⟩, _, _, A, by omega, fun g => by omega, fun _ => ⟨⟨?_, ?_⟩, ?_⟩⟩
        · rw [up_s, plx_cd k hi]
        · rw [plx_cd k hi]; omega
        · congr 1; omega
      · rw [if_neg (by rw [zI_lt (by omega) (by omega)]; omega)]
        rw [if_neg g] at A
        refine ⟨J2, _, rfl, Or.inl rfl, v, q, A, v1, fun g => absurd g z, fun _ => ⟨⟨?_, v6⟩, rfl⟩⟩
        rw [e31, v4]
  unfold FX12_duels_j64L28
  rw [e1', obind]
  dsimp only
  rcases (by omega : n = 1 ∨ n = 2 ∨ n = 3) with rfl | rfl | rfl
  · rw [if_pos (by decide)]
    obtain ⟨J3, x2, e3, g3, D3⟩ := core J1 L F1.fn FM.rf
    exact ⟨J3, L, x2, e3, ⟨J1, F1.fn, g3⟩, FM.rf, D3⟩
  · rw [if_neg (by decide), if_pos (by decide)]
    obtain ⟨J2, L2, e2, F2, N2⟩ := r_last (s := 1) R1 G1 (by omega) L (by omega)
    rw [if_neg (by omega)] at e2
    have e2' : FX12_lastTurn J1 L 136 (1 : Int32) (1 : Int32) = some (zI (-(g1 w h (kb h K (plx w h i)) 1)), J2, L2) := e2
    rw [e2', obind]
    dsimp only
    obtain ⟨J3, x2, e3, g3, D3⟩ := core J2 L2 (F1.fn.tr F2.fn) N2
    exact ⟨J3, L2, x2, e3, ⟨J2, F1.fn.tr F2.fn, g3⟩, N2, D3⟩
  · rw [if_neg (by decide), if_neg (by decide)]
    obtain ⟨J2, L2, e2, F2, N2⟩ := r_before R1 G1 L
    have e2' : FX12_turnBefore J1 L 136 (1 : Int32) (1 : Int32) = some (zI (-(g2 w h (kb h K (plx w h i)) 1)), J2, L2) := e2
    rw [e2', obind]
    dsimp only
    obtain ⟨J3, x2, e3, g3, D3⟩ := core J2 L2 (F1.fn.tr (F2.lo (by omega))) N2
    exact ⟨J3, L2, x2, e3, ⟨J2, F1.fn.tr (F2.lo (by omega)), g3⟩, N2, D3⟩
def FO (I J : tq_PI) : Prop := ∀ a j, (a ≠ 136 ∨ j ≠ 31) → a ≠ 141 → (a ≠ 140 ∨ j < 48) → J a j = I a j
theorem FO.tr {I J M : tq_PI} (h : FO I J) (k : FO J M) : FO I M := fun a j q r s => (k a j q r s).trans (h a j q r s)
theorem FN.fo {I J : tq_PI} (h : FN 0 I J) : FO I J := fun a j _ r s => h a j r (by omega)
theorem FO.up {I : tq_PI} {y : Int32} : FO I (tq_up2 I 136 31 y) := fun a j q _ _ => up_n _ _ (by omega)
theorem FO.fp {I J : tq_PI} (F : FO I J) : FP I J := fun a p => funext fun j => F a j (by unfold psl at p; omega) (by unfold psl at p; omega) (by unfold psl at p; omega)
theorem RW.fo {I J : tq_PI} (R : RW I w h) (F : FO I J) : RW J w h := ⟨by rw [F _ _ (by omega) (by omega) (by omega)]; exact R.1, by rw [F _ _ (by omega) (by omega) (by omega)]; exact R.2.1, R.2.2⟩
theorem GR.fo {I J : tq_PI} (G : GR I w h 0 K) (k : wh w h) (F : FO I J) : GR J w h 0 K := ⟨fun c hc => by have := wh_le k; rw [F _ _ (by omega) (by omega) (by omega)]; exact G.1 c hc, G.2⟩
theorem r_duels {J1 J2 : tq_PI} {n : Nat} (L : tq_PL) (ea : FX12_asTold J1 L 136 = some J2) (R : RW J2 w h) (G : GR J2 w h 0 K) (hn : n ≤ 3) : ∃ x J3 L3, FX12_duels J1 L 136 (zI (n : Int)) = some (x, J3, L3) ∧ FP J2 J3 ∧ FM 0 L L3 ∧ (n = 0 → x = zI 0) ∧ (1 ≤ n → DI w h K n (w * h + 1) x (J3 136 31)) := by
  have k := R.2.2
  have h48 := wh_le k
  obtain ⟨J0, L0, e0, F0, N0, E⟩ := r_sees (s := 0) R G (by omega) L (by omega)
  have e0' : FX12_sees J2 L 136 (0 : Int32) (0 : Int32) = some (J0, L0) := e0
  obtain ⟨m, hm⟩ : ∃ m, m = L0 149 0 := ⟨_, rfl⟩
  rw [← hm] at E
  have F1 : FO J2 (tq_up2 J0 136 31 (-1 : Int32)) := (F0.fn (l := 0)).fo.tr FO.up
  have N1 : FM 1 L0 L0 := FM.rf
  unfold FX12_duels
  rw [ea, obind, e0', obind, if_pos (by decide), g30]
  dsimp only
  rw [show ((0 : Int32)).toNatClampNeg = 0 from rfl, ← hm]
  by_cases n0 : n = 0
  · subst n0
    obtain ⟨⟨x, J3, L3⟩, e, h1, h2, h3⟩ := it_for (f := fun p : Int32 × Int32 × tq_PI × tq_PL => FX12_duels_s28 p.2.2.1 p.2.2.2 136 (zI ((0 : Nat) : Int)) m p.1 p.2.1) (fun i (s : Int32 × tq_PI × tq_PL) => (s.1, zI (i : Int), s.2.1, s.2.2)) 0 (fun i s => s = ((0 : Int32), tq_up2 J0 136 31 (-1 : Int32), L0)) (Post := fun t => t.1 = (0 : Int32) ∧ t.2.1 = tq_up2 J0 136 31 (-1 : Int32) ∧ t.2.2 = L0) (fun i s hi hs => absurd hi (Nat.not_lt_zero i)) (fun s hs => by
      subst hs
      dsimp only
      unfold FX12_duels_s28
      rw [zlet, r_many (R.fo F1), if_neg (by rw [zI_lt (by omega) (by omega)]; omega), if_pos (by decide)]
      exact ⟨_, rfl, rfl, rfl, rfl⟩) 0 ((0 : Int32), tq_up2 J0 136 31 (-1 : Int32), L0) (by omega) (by omega) rfl
    dsimp only at h1 h2 h3
    subst h1 h2 h3
    exact ⟨_, _, _, (congrArg (fun o => Option.bind o _) e).trans (obind _ _), F1.fp, N0, fun _ => rfl, fun g => by omega⟩
  · obtain ⟨⟨x, J3, L3⟩, e, h1, h2, h3⟩ := it_for (f := fun p : Int32 × Int32 × tq_PI × tq_PL => FX12_duels_s28 p.2.2.1 p.2.2.2 136 (zI (n : Int)) m p.1 p.2.1) (fun i (s : Int32 × tq_PI × tq_PL) => (s.1, zI (i : Int), s.2.1, s.2.2)) (w * h + 1) (fun i s => FO J2 s.2.1 ∧ FM 1 L0 s.2.2 ∧ DI w h K n i s.1 (s.2.1 136 31)) (Post := fun t => FO J2 t.2.1 ∧ FM 1 L0 t.2.2 ∧ DI w h K n (w * h + 1) t.1 (t.2.1 136 31)) (fun i s hi hs => by
      obtain ⟨x, J1, L1⟩ := s
      obtain ⟨F1, N1, B1⟩ := hs
      dsimp only at F1 N1 B1 ⊢
      have R1 := R.fo F1
      have G1 := G.fo k F1
      have go : al w h K 0 i → ∃ s2 : Int32 × tq_PI × tq_PL, FX12_duels_j64L28 J1 L1 136 (zI (n : Int)) m x (zI (i : Int)) = some (.inl (s2.1, zI ((i + 1 : Nat) : Int), s2.2.1, s2.2.2)) ∧ FO J2 s2.2.1 ∧ FM 1 L0 s2.2.2 ∧ DI w h K n (i + 1) s2.1 (s2.2.1 136 31) := fun a => by
        obtain ⟨J3, L3, x3, e3, ⟨Ja, F3, g3⟩, N3, B3⟩ := r_dstep m R1 G1 L1 (by omega) (by omega) a B1
        refine ⟨(x3, J3, L3), ?_, ?_, N1.tr N3, B3⟩
        · rw [e3, zI_lit, zI_add]; rfl
        · rcases g3 with rfl | ⟨y, rfl⟩
          · exact F1.tr F3.fo
          · exact (F1.tr F3.fo).tr FO.up
      unfold FX12_duels_s28
      rw [zlet, r_many R1, if_neg (by rw [zI_lt (by omega) (by omega)]; omega), if_neg (by rw [zI_lit, zI_le (by omega) (by omega)]; omega), zlet]
      by_cases q : i = w * h
      · rw [if_pos (by rw [zI_le (by omega) (by omega)]; omega)]
        exact Or.inl (go (Or.inl q))
      · rw [if_neg (by rw [zI_le (by omega) (by omega)]; omega), bb_sar (by omega), E i (by omega)]
        cases ec : cut w h K 0 (pl w i)
        · rw [if_pos (by rw [lgc]; simp)]
          refine Or.inl ⟨(x, J1, L1), by unfold FX12_duels_j132L28; rw [zI_lit, zI_add]; rfl, F1, N1, ?_⟩
          obtain ⟨v, q2, P, v1⟩ := B1
          have na : ¬ al w h K 0 i := by
            unfold al
            rw [ec]
            simp [q]
          refine ⟨v, q2, P.same (fun a b y => ?_) (fun a b y => ?_), v1⟩
          · obtain ⟨y1, c, hc, y2⟩ := y
            exact ⟨y1, c, by omega, y2⟩
          · obtain ⟨y1, c, hc, rfl⟩ := y
            by_cases g : c = i
            · right; rw [g]; exact fd_na k (by omega) na
            · left; exact ⟨y1, c, by omega, rfl⟩
        · rw [if_neg (by rw [lgc]; simp)]
          exact Or.inl (go (Or.inr ec))) (fun s hs => by
      obtain ⟨x, J1, L1⟩ := s
      obtain ⟨F1, N1, B1⟩ := hs
      dsimp only at F1 N1 B1 ⊢
      unfold FX12_duels_s28
      rw [zlet, r_many (R.fo F1), if_pos (by rw [zI_lt (by omega) (by omega)]; omega)]
      exact ⟨(x, J1, L1), rfl, F1, N1, B1⟩) 0 ((0 : Int32), tq_up2 J0 136 31 (-1 : Int32), L0) (by omega) (by omega) ⟨F1, N1, -1, 0, Or.inl ⟨rfl, fun s t y => by
        obtain ⟨y1, c, hc, y2⟩ := y
        omega⟩, by omega, fun _ => by dsimp only; rw [up_s]; rfl, fun g => by omega⟩
    dsimp only at h1 h2 h3
    exact ⟨x, J3, L3, (congrArg (fun o => Option.bind o _) e).trans (obind _ _), h1.fp, N0.tr (h2.lo (by omega)), fun g => absurd g n0, fun _ => h3⟩
theorem XCd_end (k : wh w h) (z : ∀ p, ar w h p = false → K p = 0) {n : Nat} {v : Int} {q r : Nat} (P : PI (fun q _ => fd w h K n q) (XCd w h (w * h + 1)) v q r) : PI (fun q _ => fd w h K n q) (XD 49) v q r := by
  refine P.same (fun a b y => ?_) (fun a b y => ?_)
  · obtain ⟨y1, c, hc, rfl⟩ := y
    refine ⟨y1, ?_⟩
    unfold plx
    split
    · omega
    · have p := pl_48 k (c := c) (by omega)
      omega
  · obtain ⟨y1, y2⟩ := y
    by_cases g : a = 48
    · left
      exact ⟨y1, w * h, by omega, by unfold plx; rw [if_pos rfl, g]⟩
    · cases ec : cut w h K 0 a
      · right
        unfold fd
        rw [if_pos (by omega), ec]
        simp
      · left
        have ap := cut_ar z ec
        have l := cl_lt k ap
        exact ⟨y1, cl w a, by omega, by unfold plx; rw [if_neg (by omega), pl_cl k ap]⟩
end RD
theorem q_duel {I : tq_PI} {L : tq_PL} (V : HV I L 1 0) (x y : Int32) (f : Bool) : ∃ v I2, FX11_duel I L 0 x y (zB f) = some (v, I2) ∧ FP I I2 ∧ ∀ J M, J 137 = I 137 → ∃ J2 M2, FX12_duel J M 136 x y (zB f) = some (v, J2, M2) ∧ FP J J2 ∧ FM 0 M M2 := by
  rcases hill_case V x with ⟨e, r⟩ | ⟨i, w, h, K, hi, rfl, e, H, S, r⟩
  · exact ⟨-1000, I, by unfold FX11_duel; rw [rg_0_0, e, obind]; rfl, FP.rf, fun J M hJ => ⟨J, M, by unfold FX12_duel; rw [r J M hJ, obind]; rfl, FP.rf, FM.rf⟩⟩
  · obtain ⟨z, hz, rfl⟩ := zI_of y
    have t0 : tq_b false = 0 := rfl
    have t1 : ¬ tq_b true = 0 := by decide
    have k := H.k
    have h48 := wh_le k
    have f0 : ∀ (α : Type) (a b : α), (if zB f = 0 then a else b) = if f = true then b else a := fun α a b => by cases f <;> rfl
    by_cases g : 0 ≤ z ∧ z ≤ 3
    · obtain ⟨n, rfl⟩ : ∃ n : Nat, z = n := ⟨z.toNat, by omega⟩
      by_cases g0 : n = 0
      · subst g0
        cases f
        · have ef : ∃ I2, FX5_fight I L 45 (8 + 10 * i) (zI ((0 : Nat) : Int)) = some I2 ∧ FC 45 I I2 ∧ I2 45 4 = (0 : Int32) := by
            unfold FX5_fight
            rw [zlet, if_neg (by decide)]
            exact ⟨_, rfl, FC.up.tr FC.up, by rw [up_n _ _ (by omega), up_s]⟩
          obtain ⟨I2, ef, Ff, e4⟩ := ef
          refine ⟨0, I2, ?_, Ff.fp (by unfold psl; omega), fun J M hJ => ?_⟩
          · unfold FX11_duel FX11_duel_j36
            rw [rg_0_0, e, obind, oel_s, if_neg (by decide), if_neg (by decide), if_pos (show zB false = 0 from rfl), rg_0_5, ef, obind, if_pos (show zB false = 0 from rfl), e4]
          · obtain ⟨J1, J2, k1, k2, R1, R2, G2, P3, P4, -⟩ := r J M hJ
            obtain ⟨x3, J3, L3, e3, F3, N3, q0, -⟩ := r_duels (n := 0) M k2 R2 G2 (by omega)
            have q1 := q0 rfl
            subst q1
            refine ⟨J3, L3, ?_, P4.tr F3, N3⟩
            unfold FX12_duel FX12_duel_j29
            rw [k1, obind]
            dsimp only
            rw [if_neg t1, zlet, show (0 : Int32) = zI 0 from rfl, show (3 : Int32) = zI 3 from rfl, r_isIn _ _ (by omega) (by omega) (by omega), decide_eq_true g, show zI 0 = (0 : Int32) from rfl, if_neg t1, if_pos (show zB false = 0 from rfl), e3, obind, if_pos (show zB false = 0 from rfl)]
            rfl
        · refine ⟨-1000, I, ?_, FP.rf, fun J M hJ => ?_⟩
          · unfold FX11_duel FX11_duel_j32
            rw [rg_0_0, e, obind, oel_s, if_neg (by decide), if_neg (by decide), if_neg (by decide), if_pos (by decide)]
          · obtain ⟨J1, J2, k1, k2, R1, R2, G2, P3, P4, -⟩ := r J M hJ
            refine ⟨J1, M, ?_, P3, FM.rf⟩
            unfold FX12_duel FX12_duel_j25
            rw [k1, obind]
            dsimp only
            rw [if_neg t1, zlet, show (0 : Int32) = zI 0 from rfl, show (3 : Int32) = zI 3 from rfl, r_isIn _ _ (by omega) (by omega) (by omega), decide_eq_true g, show zI 0 = (0 : Int32) from rfl, if_neg t1, if_neg (by decide), if_pos (by decide)]
      · obtain ⟨I2, v, q, ef, Ff, P, v1, v2, v3⟩ := c_fight H (by omega) (n := n) (by omega)
        have vp : 0 ≤ v := by
          rcases P with ⟨p1, p2⟩ | ⟨p1, _⟩
          · have := p2 48 0 ⟨rfl, by omega⟩
            have r2 := gn_rg w h (n - 1) K 1
            unfold fd at this
            dsimp only at this
            rw [if_neg (by omega), if_pos rfl] at this
            omega
          · exact p1
        have en0 : ¬ zI (n : Int) = 0 := by rw [zI_lit, zI_eq (by omega) (by omega)]; omega
        refine ⟨if f = true then zI (cd w h q : Nat) else zI (v - 999), I2, ?_, Ff.fp (by unfold psl; omega), fun J M hJ => ?_⟩
        · have e36 : FX11_duel_j36 I L 0 (zI (n : Int)) (zB f) (8 + 10 * i) = some (if f = true then zI (cd w h q : Nat) else zI (v - 999), I2) := by
            unfold FX11_duel_j36
            rw [rg_0_5, ef, obind, f0, v2, v3 vp]
            cases f <;> rfl
          unfold FX11_duel
          rw [rg_0_0, e, obind, oel_s, if_neg (by rw [zI_lit, zI_lt (by omega) (by omega)]; omega), if_neg (by rw [zI_lit, zI_lt (by omega) (by omega)]; omega), e36, if_neg en0, ite_self]
        · obtain ⟨J1, J2, k1, k2, R1, R2, G2, P3, P4, -⟩ := r J M hJ
          obtain ⟨x3, J3, L3, e3, F3, N3, -, q1⟩ := r_duels (n := n) M k2 R2 G2 (by omega)
          obtain ⟨u, q2, P2, u1, u2, u3⟩ := q1 (by omega)
          have P2' := XCd_end k H.z P2
          obtain ⟨o1, o2⟩ := PI_one P P2'
          obtain ⟨o3, -⟩ := o2 vp
          subst o1 o3
          obtain ⟨⟨u4, _⟩, u5⟩ := u3 vp
          refine ⟨J3, L3, ?_, P4.tr F3, N3⟩
          have e29 : FX12_duel_j29 J1 M 136 (zI (n : Int)) (zB f) = some (if f = true then zI (cd w h q : Nat) else zI (v - 999), J3, L3) := by
            unfold FX12_duel_j29
            rw [e3, obind, f0]
            dsimp only
            rw [u4, u5]
            cases f <;> rfl
          unfold FX12_duel
          rw [k1, obind]
          dsimp only
          rw [if_neg t1, zlet, show (0 : Int32) = zI 0 from rfl, show (3 : Int32) = zI 3 from rfl, r_isIn _ _ (by omega) (by omega) (by omega), decide_eq_true g, show zI 0 = (0 : Int32) from rfl, if_neg t1, e29, if_neg en0, ite_self]
    · refine ⟨-1000, I, ?_, FP.rf, fun J M hJ => ?_⟩
      · unfold FX11_duel FX11_duel_j32
        rw [rg_0_0, e, obind, oel_s]
        by_cases z0 : z < 0
        · rw [if_pos (by rw [zI_lit, zI_lt (by omega) (by omega)]; exact z0)]
        · rw [if_neg (by rw [zI_lit, zI_lt (by omega) (by omega)]; exact z0), if_pos (by rw [zI_lit, zI_lt (by omega) (by omega)]; omega)]
      · obtain ⟨J1, J2, k1, k2, R1, R2, G2, P3, P4, -⟩ := r J M hJ
        refine ⟨J1, M, ?_, P3, FM.rf⟩
        unfold FX12_duel FX12_duel_j25
        rw [k1, obind]
        dsimp only
        rw [if_neg t1, zlet, show (0 : Int32) = zI 0 from rfl, show (3 : Int32) = zI 3 from rfl, r_isIn _ _ (by omega) (by omega) (by omega), decide_eq_false g, show zI 0 = (0 : Int32) from rfl, if_pos t0]
