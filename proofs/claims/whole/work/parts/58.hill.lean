/-! THE CLASS'S HILL: its sets of bits. -/
def HC (I : tq_PI) (L : tq_PL) (a w h : Nat) (K : Nat → Nat) : Prop := I a 0 = zI (w : Int) ∧ I a 1 = zI (h : Int) ∧ wh w h ∧ (∀ p, K p ≤ 4) ∧ (∀ p, ar w h p = false → K p = 0) ∧ bb (L a 2) = ar w h ∧ bb (L a 3) = edg w h 0 ∧ bb (L a 4) = edg w h 1 ∧ bb (L a 5) = (fun p => ar w h p && decide (p / 8 + 1 = h)) ∧ bb (L a 6) = (fun p => decide (K p = 1)) ∧ bb (L a 7) = (fun p => decide (K p = 2)) ∧ bb (L a 8) = (fun p => decide (K p = 3)) ∧ bb (L a 9) = (fun p => decide (K p = 4))
section HCS
variable {I : tq_PI} {L : tq_PL} {a w h : Nat} {K : Nat → Nat}
theorem HC.k (H : HC I L a w h K) : wh w h := H.2.2.1
theorem HC.z (H : HC I L a w h K) : ∀ p, ar w h p = false → K p = 0 := H.2.2.2.2.1
theorem HC.le (H : HC I L a w h K) : ∀ p, K p ≤ 4 := H.2.2.2.1
theorem HC.area (H : HC I L a w h K) : bb (L a 2) = ar w h := H.2.2.2.2.2.1
theorem HC.m1 (H : HC I L a w h K) : bb (L a 6) = (fun p => decide (K p = 1)) := H.2.2.2.2.2.2.2.2.2.1
theorem HC.m2 (H : HC I L a w h K) : bb (L a 7) = (fun p => decide (K p = 2)) := H.2.2.2.2.2.2.2.2.2.2.1
theorem HC.m3 (H : HC I L a w h K) : bb (L a 8) = (fun p => decide (K p = 3)) := H.2.2.2.2.2.2.2.2.2.2.2.1
theorem HC.m4 (H : HC I L a w h K) : bb (L a 9) = (fun p => decide (K p = 4)) := H.2.2.2.2.2.2.2.2.2.2.2.2
theorem HC.bot (H : HC I L a w h K) : bb (L a 5) = (fun p => ar w h p && decide (p / 8 + 1 = h)) := H.2.2.2.2.2.2.2.2.1
theorem HC.s48 (H : HC I L a w h K) {M : Nat → Nat} (z : ∀ p, ar w h p = false → M p = 0) {p : Nat} (q : sol M p = true) : p < 48 := ar_lt H.k.2.2.2 (sol_ar z q)
theorem c_sto (H : HC I L a w h K) : bb (FX3_stones I L a) = sto K := funext fun p => by
  unfold FX3_stones
  rw [bb_or, bb_or, H.m1, H.m2, H.m3]
  unfold sto
  rw [Bool.eq_iff_iff]
  simp only [Bool.or_eq_true, decide_eq_true_eq]
  omega
theorem c_sol (H : HC I L a w h K) : bb (FX3_solid I L a) = sol K := funext fun p => by
  unfold FX3_solid
  rw [zlet, bb_or, c_sto H, H.m4]
  unfold sto sol
  have := H.le p
  rw [Bool.eq_iff_iff]
  simp only [Bool.or_eq_true, decide_eq_true_eq]
  omega
theorem bb_minus {x y : Int64} (p : Nat) : bb (x &&& (y ^^^ (-1))) p = (bb x p && !bb y p) := by
  rw [bb_and, bb_not]
  by_cases q : p < 64
  · simp [q]
  · rw [bb_big (x := x) (by omega)]; rfl
theorem c_open (H : HC I L a w h K) {x : Int64} {M : Nat → Nat} (hx : bb x = sol M) : bb (L a 2 &&& (x ^^^ (-1))) = air w h M := funext fun p => by
  rw [bb_minus, H.area, hx]
  unfold sol air
  cases decide (K p = 0) <;> simp
theorem c_air (H : HC I L a w h K) : bb (FX3_air I L a) = air w h K := by
  unfold FX3_air
  rw [zlet]
  exact c_open H (c_sol H)
theorem c_nxt (x : Int64) {p : Nat} (hp : p < 48) : bb (FX11_nextTo I L x) p = nxt (bb x) p := by
  unfold FX11_nextTo FX11_leftOf FX11_rightOf nxt
  simp only [zlet, zI_lit]
  rw [bb_or, bb_or, bb_or, bb_and, bb_and, bb_shr (by omega), bb_shr (by omega), bb_shl (by omega), bb_shl (by omega), bb_nright hp, bb_nleft hp]
  simp only [show (1 : Int).toNat = 1 from rfl, show (8 : Int).toNat = 8 from rfl, Nat.add_comm 1 p, Nat.add_comm 8 p]
  rw [Bool.eq_iff_iff]
  simp only [Bool.or_eq_true, Bool.and_eq_true, Bool.not_eq_true', decide_eq_true_eq, decide_eq_false_iff_not]
  constructor
  · rintro (((⟨q, r⟩ | ⟨q, r⟩) | q) | q)
    · exact Or.inl (Or.inl (Or.inl ⟨r, q⟩))
    · exact Or.inl (Or.inl (Or.inr ⟨r, q.2⟩))
    · exact Or.inl (Or.inr ⟨q.1.2, q.2⟩)
    · exact Or.inr q
  · rintro (((⟨q, r⟩ | ⟨q, r⟩) | q) | q)
    · exact Or.inl (Or.inl (Or.inl ⟨r, q⟩))
    · exact Or.inl (Or.inl (Or.inr ⟨⟨⟨by omega, by omega⟩, r⟩, q⟩))
    · exact Or.inl (Or.inr ⟨⟨by omega, q.1⟩, q.2⟩)
    · exact Or.inr q
theorem bb_it {g : Int64 → Int64} {G : (Nat → Bool) → Nat → Bool} (hg : ∀ x, bb (g x) = G (bb x)) : ∀ n x, bb (qz_it g n x) = qz_it G n (bb x)
  | 0, _ => rfl
  | n + 1, x => by rw [qz_it, qz_it, bb_it hg n, hg]
theorem c_flood (x o : Int64) (ho : ∀ p, bb o p = true → p < 48) : ∃ y, FX11_flood I L x o = some y ∧ bb y = flo (bb o) (bb x) := by
  have hg : ∀ v : Int64, bb (v ||| (FX11_nextTo I L v &&& o)) = gro (bb o) (bb v) := fun v => funext fun p => by
    rw [bb_or, bb_and]
    unfold gro
    by_cases q : p < 48
    · rw [c_nxt v q]
    · have : bb o p = false := by
        cases e : bb o p
        · rfl
        · exact absurd (ho p e) q
      rw [this, Bool.and_false, Bool.and_false]
  refine ⟨qz_it (fun v => v ||| (FX11_nextTo I L v &&& o)) 48 x, ?_, bb_it hg 48 x⟩
  unfold FX11_flood
  refine (congrArg (fun o => Option.bind o _) (it_fix (f := fun p : Int64 × Int32 => FX11_flood_s6 I L o p.1 p.2) (fun v i => (v, zI (i : Int))) (fun v => v ||| (FX11_nextTo I L v &&& o)) 48 (by omega) (fun v i hi => ?_) x)).trans (obind _ _)
  show FX11_flood_s6 I L o v (zI (i : Int)) = _
  have e : FX11_flood_s6 I L o v (zI (i : Int)) = (if (48 : Int32) ≤ zI (i : Int) then some (.inr v) else (if (lg_cmp (v ||| (FX11_nextTo I L v &&& o)) v) = 0 then some (.inr v) else some (.inl ((v ||| (FX11_nextTo I L v &&& o)), (zI (i : Int) + 1))))) := rfl
  rw [e]
  simp (disch := omega) only [zlet, obind, zI_lit, zI_neg, zI_add, zI_sub, zI_mul, zI_div, zI_le, zI_lt, zI_eq, zI_cl, irem, ile_t, ile_f, ilt_t, ilt_f, ieq_t, ieq_f, and_true, true_and, and_false, false_and, and_self, not_true_eq_false, not_false_eq_true, ↓reduceIte, Int.toNat_natCast, tqb_z, tqb_t, tqb_f, lgz]
  by_cases q : 48 ≤ i
  · rw [if_pos (by omega), if_pos q]
  · rw [if_neg (by omega), if_neg q]
    by_cases r : v ||| (FX11_nextTo I L v &&& o) = v
    · rw [if_pos r, if_pos r]
    · rw [if_neg r, if_neg r]; rfl
def car (h : Nat) (S : Nat → Bool) (p : Nat) : Bool := S p && (decide (p / 8 + 1 = h) || S (p + 8))
def bri (S : Nat → Bool) (p : Nat) : Bool := S p && (decide (p % 8 ≠ 7) && S (p + 1) && decide (p % 8 ≠ 0) && S (p - 1))
theorem std_cb (h : Nat) (S : Nat → Bool) (p : Nat) : std h S p = (car h S p || bri S p) := by
  unfold std car bri
  cases S p <;> simp
theorem c_car (H : HC I L a w h K) {x : Int64} {S : Nat → Bool} (hx : bb x = S) (hS : ∀ p, S p = true → ar w h p = true) : bb (FX3_carried I L a x) = car h S := funext fun p => by
  unfold FX3_carried car
  simp only [zI_lit]
  rw [bb_and, bb_or, bb_shr (by omega), H.bot, hx]
  cases e : S p
  · rfl
  · simp [hS p e, Nat.add_comm]
theorem c_bri (H : HC I L a w h K) {x : Int64} {S : Nat → Bool} (hx : bb x = S) (hS : ∀ p, S p = true → ar w h p = true) : bb (FX3_bridged I L a x) = bri S := funext fun p => by
  unfold FX3_bridged bri
  simp only [zI_lit]
  rw [bb_and, bb_and, bb_and, bb_and, bb_shr (by omega), bb_shl (by omega), hx]
  cases e : S p
  · rfl
  · have hp : p < 48 := ar_lt H.k.2.2.2 (hS p e)
    rw [bb_nright hp, bb_nleft hp, Bool.eq_iff_iff]
    simp only [show (1 : Int).toNat = 1 from rfl, Nat.add_comm 1 p, Bool.and_eq_true, Bool.not_eq_true', decide_eq_true_eq, decide_eq_false_iff_not, true_and]
    constructor
    · rintro ⟨⟨⟨q1, q2⟩, q3⟩, q4⟩
      exact ⟨⟨⟨q2, q1⟩, q4⟩, q3.2⟩
    · rintro ⟨⟨⟨q1, q2⟩, q3⟩, q4⟩
      exact ⟨⟨⟨q2, q1⟩, ⟨⟨by omega, by omega⟩, q4⟩⟩, q3⟩
theorem c_std (H : HC I L a w h K) {x : Int64} {S : Nat → Bool} (hx : bb x = S) (hS : ∀ p, S p = true → ar w h p = true) : bb (FX3_standing I L a x) = std h S := funext fun p => by
  unfold FX3_standing
  rw [zlet, zlet, bb_or, c_car H hx hS, c_bri H hx hS, std_cb]
theorem c_settled (H : HC I L a w h K) {x : Int64} {S : Nat → Bool} (hx : bb x = S) (hS : ∀ p, S p = true → ar w h p = true) : ∃ y, FX3_settled I L a x = some y ∧ bb y = stl h S := by
  refine ⟨qz_it (fun v => FX3_standing I L a v) 48 x, ?_, ?_⟩
  · unfold FX3_settled
    refine (congrArg (fun o => Option.bind o _) (it_fix (f := fun p : Int64 × Int32 => FX3_settled_s5 I L a p.1 p.2) (fun v i => (v, zI (i : Int))) (fun v => FX3_standing I L a v) 48 (by omega) (fun v i hi => ?_) x)).trans (obind _ _)
    unfold FX3_settled_s5
    simp (disch := omega) only [zlet, obind, zI_lit, zI_neg, zI_add, zI_sub, zI_mul, zI_div, zI_le, zI_lt, zI_eq, zI_cl, irem, ile_t, ile_f, ilt_t, ilt_f, ieq_t, ieq_f, and_true, true_and, and_false, false_and, and_self, not_true_eq_false, not_false_eq_true, ↓reduceIte, Int.toNat_natCast, tqb_z, tqb_t, tqb_f, lgz]
    by_cases q : 48 ≤ i
    · rw [if_pos (by omega), if_pos q]
    · rw [if_neg (by omega), if_neg q]
      by_cases r : FX3_standing I L a v = v
      · rw [if_pos r, if_pos r]
      · rw [if_neg r, if_neg r]; rfl
  · have : ∀ n, bb (qz_it (fun v => FX3_standing I L a v) n x) = qz_it (std h) n S ∧ ∀ p, qz_it (std h) n S p = true → ar w h p = true := by
      intro n
      induction n with
      | zero => exact ⟨hx, hS⟩
      | succ n ih =>
        rw [qz_it_succ, qz_it_succ]
        exact ⟨c_std H ih.1 ih.2, fun p q => ih.2 p (std_sub q)⟩
    exact (this 48).1
theorem c_edge (H : HC I L a w h K) {s : Nat} (hs : s < 2) : bb (FX3_edge I L a (zI (s : Int))) = edg w h s := by
  unfold FX3_edge
  simp (disch := omega) only [zlet, obind, zI_lit, zI_neg, zI_add, zI_sub, zI_mul, zI_div, zI_le, zI_lt, zI_eq, zI_cl, irem, ile_t, ile_f, ilt_t, ilt_f, ieq_t, ieq_f, and_true, true_and, and_false, false_and, and_self, not_true_eq_false, not_false_eq_true, ↓reduceIte, Int.toNat_natCast, tqb_z, tqb_t, tqb_f]
  rcases (by omega : s = 0 ∨ s = 1) with rfl | rfl
  · rw [if_pos (by omega)]; exact H.2.2.2.2.2.2.1
  · rw [if_neg (by omega)]; exact H.2.2.2.2.2.2.2.1
theorem c_reached (H : HC I L a w h K) {s : Nat} (hs : s < 2) {x : Int64} {M : Nat → Nat} (hx : bb x = sol M) : ∃ y, FX3_reached I L a (zI (s : Int)) x = some y ∧ bb y = rea w h M s := by
  have ho := c_open H hx
  obtain ⟨y, e, hy⟩ := c_flood (I := I) (L := L) (FX3_edge I L a (zI (s : Int)) &&& (L a 2 &&& (x ^^^ (-1)))) (L a 2 &&& (x ^^^ (-1))) (fun p q => by rw [ho] at q; exact air_48 H.k q)
  refine ⟨y, ?_, ?_⟩
  · unfold FX3_reached
    rw [zlet, e, obind]
  · rw [hy, ho]
    unfold rea
    congr 1
    funext p
    rw [bb_and, ho, c_edge H hs]
/-- kinds that are a hill's, some taken, some propped -/
def sb (K M : Nat → Nat) : Prop := ∀ p, M p = K p ∨ M p = 0 ∨ (M p = 4 ∧ K p = 0)
theorem sb_sto {K M : Nat → Nat} (h : sb K M) (p : Nat) : sto M p = (sto K p && sol M p) := by
  unfold sto sol
  rcases h p with e | e | ⟨e, f⟩
  · rw [e]
    by_cases q : 1 ≤ K p ∧ K p ≤ 3
    · have : K p ≠ 0 := by omega
      simp [q, this]
    · simp [q]
  · simp [e]
  · simp [e, f]
theorem c_cut (H : HC I L a w h K) {s : Nat} (hs : s < 2) {x : Int64} {M : Nat → Nat} (hx : bb x = sol M) (hM : sb K M) (zM : ∀ p, ar w h p = false → M p = 0) : ∃ y, FX3_cuttable I L a (zI (s : Int)) x = some y ∧ bb y = cut w h M s := by
  obtain ⟨y, e, hy⟩ := c_reached H hs hx
  refine ⟨_, by unfold FX3_cuttable; rw [zlet, zlet, e, obind, zlet], funext fun p => ?_⟩
  rw [bb_and, bb_and, bb_or, c_sto H, hx, c_edge H hs, ← sb_sto hM]
  unfold cut
  cases q : sto M p
  · rfl
  · have : sol M p = true := by rw [sb_sto hM] at q; simp only [Bool.and_eq_true] at q; exact q.2
    rw [c_nxt y (H.s48 zM this), hy]
end HCS
