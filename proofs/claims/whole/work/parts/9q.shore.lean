/-! SHORED: the first best of rows; the class. -/
def lx (q r s t : Nat) : Prop := q < s ∨ (q = s ∧ r < t)
def PI (f : Nat → Nat → Int) (X : Nat → Nat → Prop) (v : Int) (q r : Nat) : Prop := (v = -1 ∧ ∀ s t, X s t → f s t = -1) ∨ (0 ≤ v ∧ X q r ∧ f q r = v ∧ (∀ s t, X s t → f s t ≤ v) ∧ ∀ s t, X s t → lx s t q r → f s t < v)
theorem PI.same {f : Nat → Nat → Int} {X Y : Nat → Nat → Prop} {v : Int} {q r : Nat} (P : PI f X v q r) (h1 : ∀ a b, X a b → Y a b) (h2 : ∀ a b, Y a b → X a b ∨ f a b = -1) : PI f Y v q r := by
  rcases P with ⟨p1, p2⟩ | ⟨p1, p2, p3, p4, p5⟩
  · refine Or.inl ⟨p1, fun s t y => ?_⟩
    rcases h2 s t y with g | g
    · exact p2 s t g
    · exact g
  · refine Or.inr ⟨p1, h1 _ _ p2, p3, fun s t y => ?_, fun s t y l => ?_⟩
    · rcases h2 s t y with g | g
      · exact p4 s t g
      · omega
    · rcases h2 s t y with g | g
      · exact p5 s t g l
      · omega
theorem PI.add {f : Nat → Nat → Int} {X Y : Nat → Nat → Prop} {v : Int} {q r s t : Nat} (hf : ∀ a b, -1 ≤ f a b) (P : PI f X v q r) (hX : ∀ a b, X a b → lx a b s t) (h1 : ∀ a b, X a b → Y a b) (h2 : ∀ a b, Y a b → X a b ∨ f a b = -1 ∨ (a = s ∧ b = t)) (h3 : Y s t) : if v < f s t then PI f Y (f s t) s t else PI f Y v q r := by
  have ir : ∀ a b, lx a b a b → False := fun a b l => by unfold lx at l; omega
  rcases P with ⟨p1, p2⟩ | ⟨p1, p2, p3, p4, p5⟩
  · split
    · refine Or.inr ⟨by omega, h3, rfl, fun a b y => ?_, fun a b y l => ?_⟩
      · rcases h2 a b y with g | g | ⟨rfl, rfl⟩
        · rw [p2 a b g]; exact hf s t
        · rw [g]; exact hf s t
        · omega
      · rcases h2 a b y with g | g | ⟨rfl, rfl⟩
        · rw [p2 a b g]; omega
        · rw [g]; omega
        · exact (ir _ _ l).elim
    · refine Or.inl ⟨p1, fun a b y => ?_⟩
      rcases h2 a b y with g | g | ⟨rfl, rfl⟩
      · exact p2 a b g
      · exact g
      · have := hf a b; omega
  · split
    · refine Or.inr ⟨by omega, h3, rfl, fun a b y => ?_, fun a b y l => ?_⟩
      · rcases h2 a b y with g | g | ⟨rfl, rfl⟩
        · have := p4 a b g; omega
        · omega
        · omega
      · rcases h2 a b y with g | g | ⟨rfl, rfl⟩
        · have := p4 a b g; omega
        · omega
        · exact (ir _ _ l).elim
    · refine Or.inr ⟨p1, h1 _ _ p2, p3, fun a b y => ?_, fun a b y l => ?_⟩
      · rcases h2 a b y with g | g | ⟨rfl, rfl⟩
        · exact p4 a b g
        · omega
        · omega
      · rcases h2 a b y with g | g | ⟨rfl, rfl⟩
        · exact p5 a b g l
        · omega
        · have := hX q r p2; unfold lx at l this; omega
theorem PI_one {f : Nat → Nat → Int} {X : Nat → Nat → Prop} {v u : Int} {q r s t : Nat} (a : PI f X v q r) (b : PI f X u s t) : v = u ∧ (0 ≤ v → q = s ∧ r = t) := by
  rcases a with ⟨a1, a2⟩ | ⟨a1, a2, a3, a4, a5⟩ <;> rcases b with ⟨b1, b2⟩ | ⟨b1, b2, b3, b4, b5⟩
  · exact ⟨by omega, by omega⟩
  · have := a2 s t b2; omega
  · have := b2 q r a2; omega
  · have c1 := a4 s t b2
    have c2 := b4 q r a2
    refine ⟨by omega, fun _ => ?_⟩
    have c3 : ¬ lx s t q r := fun l => by have := a5 s t b2 l; omega
    have c4 : ¬ lx q r s t := fun l => by have := b5 q r a2 l; omega
    unfold lx at c3 c4
    omega
noncomputable def sv (w h : Nat) (M : Nat → Nat) : Int := if sta h (sol M) then ((fb_ct (saf w h M 0) 64 + fb_ct (saf w h M 1) 64 : Nat) : Int) else -1
theorem sv_rg (w h : Nat) (M : Nat → Nat) : -1 ≤ sv w h M ∧ sv w h M ≤ 128 := by
  have h1 := fb_ct_le (saf w h M 0) 64
  have h2 := fb_ct_le (saf w h M 1) 64
  unfold sv
  split <;> omega
noncomputable def fsh (w h : Nat) (K : Nat → Nat) (n q r : Nat) : Int := if n = 0 then sv w h K else if n = 1 then (if air w h K q then sv w h (kup K q 4) else -1) else (if air w h K q && air w h K r then sv w h (kup (kup K q 4) r 4) else -1)
theorem fsh_rg (w h : Nat) (K : Nat → Nat) (n q r : Nat) : -1 ≤ fsh w h K n q r ∧ fsh w h K n q r ≤ 128 := by
  have a := sv_rg w h K
  have b := sv_rg w h (kup K q 4)
  have c := sv_rg w h (kup (kup K q 4) r 4)
  unfold fsh
  split
  · exact a
  · split
    · split <;> omega
    · split <;> omega
def Dsh (n q r : Nat) : Prop := (n = 0 ∧ q = 0 ∧ r = 0) ∨ (n = 1 ∧ r = 0) ∨ (n = 2 ∧ q < r)
theorem sb_k1 {K : Nat → Nat} {q : Nat} (h : K q = 0) : sb K (kup K q 4) := fun p => by
  unfold kup
  by_cases e : p = q
  · rw [if_pos e, e]; exact Or.inr (Or.inr ⟨rfl, h⟩)
  · rw [if_neg e]; exact Or.inl rfl
theorem sb_k2 {K M : Nat → Nat} {q : Nat} (s : sb K M) (h : K q = 0) : sb K (kup M q 4) := fun p => by
  unfold kup
  by_cases e : p = q
  · rw [if_pos e, e]; exact Or.inr (Or.inr ⟨rfl, h⟩)
  · rw [if_neg e]; exact s p
theorem air_0 {w h : Nat} {K : Nat → Nat} {p : Nat} (q : air w h K p = true) : K p = 0 := by simp [air] at q; exact q.2
section SH
variable {I : tq_PI} {L : tq_PL} {a w h : Nat} {K : Nat → Nat}
theorem c_weigh (H : HC I L a w h K) {x : Int64} {M : Nat → Nat} (hx : bb (FX3_solid I L a ||| x) = sol M) (hM : sb K M) (zM : ∀ p, ar w h p = false → M p = 0) {v : Int} (hv : I 48 1 = zI v) (hv2 : -1 ≤ v ∧ v ≤ 128) : FX6_weigh I L 48 a x = some (if v < sv w h M then (tq_up2 I 48 1 (zI (sv w h M)), tq_up2 L 48 0 x) else (I, L)) := by
  have hst := c_stands H hx (fun p q => sol_ar zM q)
  unfold FX6_weigh
  rw [zlet, zlet, hst]
  cases es : sta h (sol M)
  · rw [if_pos (show tq_b false = 0 from rfl)]
    have : sv w h M = -1 := by unfold sv; rw [es]; rfl
    rw [this, if_neg (by omega)]
  · rw [if_neg (show ¬ tq_b true = 0 by decide)]
    have st : ∀ q, sol M q = true → std h (sol M) q = true := sta_iff.1 es
    obtain ⟨y0, e0, h0⟩ := c_safe H (s := 0) (by omega) hx hM zM st
    obtain ⟨y1, e1, h1⟩ := c_safe H (s := 1) (by omega) hx hM zM st
    have e0' : FX3_safeFor I L a (0 : Int32) (FX3_solid I L a ||| x) = some y0 := e0
    have e1' : FX3_safeFor I L a (1 : Int32) (FX3_solid I L a ||| x) = some y1 := e1
    rw [e0', obind, zlet, e1', obind, zlet, bc_eq, bc_eq, h0, h1, hv, zI_add]
    have l1 := fb_ct_le (saf w h M 0) 64
    have l2 := fb_ct_le (saf w h M 1) 64
    have : sv w h M = ((fb_ct (saf w h M 0) 64 : Nat) : Int) + ((fb_ct (saf w h M 1) 64 : Nat) : Int) := by unfold sv; rw [es]; simp
    rw [this]
    by_cases g : v < ((fb_ct (saf w h M 0) 64 : Nat) : Int) + ((fb_ct (saf w h M 1) 64 : Nat) : Int)
    · rw [if_pos g, if_neg (by rw [zI_le (by omega) (by omega)]; omega)]
    · rw [if_neg g, if_pos (by rw [zI_le (by omega) (by omega)]; omega)]
/-- the class's state on the way -/
def SS (w h : Nat) (K : Nat → Nat) (n : Nat) (I0 : tq_PI) (L0 : tq_PL) (X : Nat → Nat → Prop) (I : tq_PI) (L : tq_PL) : Prop := FC 48 I0 I ∧ FL 48 L0 L ∧ ∃ v q r, PI (fsh w h K n) X v q r ∧ (-1 ≤ v ∧ v ≤ 128) ∧ I 48 1 = zI v ∧ (0 ≤ v → bb (L 48 0) = two n q r)
theorem SS.same {n : Nat} {I0 : tq_PI} {L0 : tq_PL} {X Y : Nat → Nat → Prop} (S : SS w h K n I0 L0 X I L) (h1 : ∀ a b, X a b → Y a b) (h2 : ∀ a b, Y a b → X a b ∨ fsh w h K n a b = -1) : SS w h K n I0 L0 Y I L := by
  obtain ⟨s1, s2, v, q, r, s3, s4⟩ := S
  exact ⟨s1, s2, v, q, r, s3.same h1 h2, s4⟩
theorem SS.add {n s t : Nat} {I0 : tq_PI} {L0 : tq_PL} {X Y : Nat → Nat → Prop} (S : SS w h K n I0 L0 X I L) (H : HC I0 L0 a w h K) (ha : a ≠ 48) {x : Int64} {M : Nat → Nat} (hs : bb x = two n s t) (hx : bb (FX3_solid I L a ||| x) = sol M) (hM : sb K M) (zM : ∀ p, ar w h p = false → M p = 0) (hf : fsh w h K n s t = sv w h M) (hX : ∀ a b, X a b → lx a b s t) (h1 : ∀ a b, X a b → Y a b) (h2 : ∀ a b, Y a b → X a b ∨ fsh w h K n a b = -1 ∨ (a = s ∧ b = t)) (h3 : Y s t) : ∃ I2 L2, FX6_weigh I L 48 a x = some (I2, L2) ∧ SS w h K n I0 L0 Y I2 L2 := by
  obtain ⟨s1, s2, v, q, r, s3, s4, s5, s6⟩ := S
  have H2 := (H.fi s1 ha).fl s2 ha
  have e := c_weigh H2 hx hM zM s5 s4
  have P := PI.add (fun a b => (fsh_rg w h K n a b).1) s3 hX h1 h2 h3
  rw [hf] at P
  have rg := sv_rg w h M
  rw [e]
  by_cases g : v < sv w h M
  · rw [if_pos g] at P ⊢
    exact ⟨_, _, rfl, s1.tr FC.up, s2.tr FL.up, _, _, _, P, rg, up_s _ _ _ _, fun _ => by rw [up_s]; exact hs⟩
  · rw [if_neg g] at P ⊢
    exact ⟨_, _, rfl, s1, s2, _, _, _, P, s4, s5, s6⟩
def XC (n i j q r : Nat) : Prop := Dsh n q r ∧ (q < i ∨ (q = i ∧ r < j))
theorem c_shore_in {I0 : tq_PI} {L0 : tq_PL} (H : HC I0 L0 a w h K) (ha : a ≠ 48) {i : Nat} (hi : i < 48) {y : Int64} (hy : bb y = fun p => decide (p = i)) (ea : air w h K i = true) (S : SS w h K 2 I0 L0 (XC 2 i (i + 1)) I L) : ∃ I2 L2, tq_it (fun p : Int32 × tq_PI × tq_PL => FX6_shore_s63 p.2.1 p.2.2 48 a (zI 2) (zI (i : Int)) y p.1) tq_N (zI ((i + 1 : Nat) : Int), I, L) = some (I2, L2) ∧ SS w h K 2 I0 L0 (XC 2 i 48) I2 L2 := by
  have yn : ¬ y = 0 := fun q => by rw [q] at hy; have := congrFun hy i; rw [bb_0] at this; simp at this
  obtain ⟨⟨I2, L2⟩, e, ho⟩ := it_for (f := fun p : Int32 × tq_PI × tq_PL => FX6_shore_s63 p.2.1 p.2.2 48 a (zI 2) (zI (i : Int)) y p.1) (fun j (s : tq_PI × tq_PL) => (zI (j : Int), s.1, s.2)) 48 (fun j s => i < j ∧ SS w h K 2 I0 L0 (XC 2 i j) s.1 s.2) (Post := fun s => SS w h K 2 I0 L0 (XC 2 i 48) s.1 s.2) (fun j s hj hs => by
    obtain ⟨I1, L1⟩ := s
    obtain ⟨hij, hs⟩ := hs
    dsimp only at hs ⊢
    have H1 := (H.fi hs.1 ha).fl hs.2.1 ha
    have hb : bb ((1 : Int64) <<< (Int32.toInt64 (zI (j : Int)) &&& 63)) = fun q => decide (q = j) := funext fun q => by rw [bb_one (by omega)]; simp
    unfold FX6_shore_s63 FX6_shore_j110L63
    simp (disch := omega) only [zlet, obind, zI_lit, zI_neg, zI_add, zI_sub, zI_mul, zI_div, zI_le, zI_lt, zI_eq, zI_cl, irem, ile_t, ile_f, ilt_t, ilt_f, ieq_t, ieq_f, and_true, true_and, and_false, false_and, and_self, not_true_eq_false, not_false_eq_true, ↓reduceIte, Int.toNat_natCast, tqb_z, tqb_t, tqb_f, lgz, yn, bb_hit hb, c_air H1]
    cases eb : air w h K j
    · rw [if_pos rfl]
      refine Or.inl ⟨(I1, L1), rfl, by omega, hs.same (fun a b x => ?_) (fun a b x => ?_)⟩
      · unfold XC Dsh at *; omega
      · by_cases g : a = i ∧ b = j
        · right; unfold fsh; rw [g.2, eb]; simp
        · left; unfold XC Dsh at *; omega
    · rw [if_neg (by simp)]
      have hy2 := bb_and_one (x := FX3_air I1 L1 a) hb (by rw [c_air H1]; exact eb)
      have hx2 : bb (FX3_solid I1 L1 a ||| (y ||| FX3_air I1 L1 a &&& ((1 : Int64) <<< (Int32.toInt64 (zI (j : Int)) &&& 63)))) = sol (kup (kup K i 4) j 4) := by
        have := bb_sup (bb_sup (c_sol H1) hy) hy2
        rw [← this]
        funext p
        simp only [bb_or, Bool.or_assoc]
      obtain ⟨I2, L2, e2, S2⟩ := hs.add H ha (s := i) (t := j) (Y := XC 2 i (j + 1)) (by funext p; rw [bb_or, hy, hy2]; simp [two]) hx2 (sb_k2 (sb_k1 (air_0 ea)) (air_0 eb)) (kup_z (kup_z H.z (Or.inr (air_ar ea))) (Or.inr (air_ar eb))) (by unfold fsh; simp [ea, eb]) (fun a b x => by unfold XC Dsh lx at *; omega) (fun a b x => by unfold XC Dsh at *; omega) (fun a b x => by unfold XC Dsh at *; omega) (by unfold XC Dsh; omega)
      rw [e2, obind]
      exact Or.inl ⟨(I2, L2), rfl, by omega, S2⟩) (fun s hs => by
    unfold FX6_shore_s63
    simp (disch := omega) only [zlet, obind, zI_lit, zI_neg, zI_add, zI_sub, zI_mul, zI_div, zI_le, zI_lt, zI_eq, zI_cl, irem, ile_t, ile_f, ilt_t, ilt_f, ieq_t, ieq_f, and_true, true_and, and_false, false_and, and_self, not_true_eq_false, not_false_eq_true, ↓reduceIte, Int.toNat_natCast, tqb_z, tqb_t, tqb_f]
    exact ⟨_, rfl, hs.2⟩) (i + 1) (I, L) (by omega) (by omega) ⟨by omega, S⟩
  exact ⟨I2, L2, e, ho⟩
theorem c_shore_out {I0 : tq_PI} {L0 : tq_PL} (H : HC I0 L0 a w h K) (ha : a ≠ 48) {n : Nat} (hn : n = 1 ∨ n = 2) (S : SS w h K n I0 L0 (XC n 0 0) I L) : ∃ I2 L2, tq_it (fun p : Int32 × tq_PI × tq_PL => FX6_shore_s23 p.2.1 p.2.2 48 a (zI (n : Int)) p.1) tq_N (zI ((0 : Nat) : Int), I, L) = some (I2, L2) ∧ SS w h K n I0 L0 (XC n 48 0) I2 L2 := by
  obtain ⟨⟨I2, L2⟩, e, ho⟩ := it_for (f := fun p : Int32 × tq_PI × tq_PL => FX6_shore_s23 p.2.1 p.2.2 48 a (zI (n : Int)) p.1) (fun j (s : tq_PI × tq_PL) => (zI (j : Int), s.1, s.2)) 48 (fun j s => SS w h K n I0 L0 (XC n j 0) s.1 s.2) (Post := fun s => SS w h K n I0 L0 (XC n 48 0) s.1 s.2) (fun i s hi hs => by
    obtain ⟨I1, L1⟩ := s
    dsimp only at hs ⊢
    have H1 := (H.fi hs.1 ha).fl hs.2.1 ha
    have hb : bb ((1 : Int64) <<< (Int32.toInt64 (zI (i : Int)) &&& 63)) = fun q => decide (q = i) := funext fun q => by rw [bb_one (by omega)]; simp
    unfold FX6_shore_s23 FX6_shore_j58L23
    simp (disch := omega) only [zlet, obind, zI_lit, zI_neg, zI_add, zI_sub, zI_mul, zI_div, zI_le, zI_lt, zI_eq, zI_cl, irem, ile_t, ile_f, ilt_t, ilt_f, ieq_t, ieq_f, and_true, true_and, and_false, false_and, and_self, not_true_eq_false, not_false_eq_true, ↓reduceIte, Int.toNat_natCast, tqb_z, tqb_t, tqb_f, lgz, bb_hit hb, c_air H1]
    have nil : ∀ (I1 : tq_PI) (L1 : tq_PL) (y : Int64), (y = 0 ∨ n = 1) → tq_it (fun p : Int32 × tq_PI × tq_PL => FX6_shore_s63 p.2.1 p.2.2 48 a (zI (n : Int)) (zI (i : Int)) y p.1) tq_N (zI ((i : Int) + 1), I1, L1) = some (I1, L1) := fun I1 L1 y hy => by
      obtain ⟨o, e, ho⟩ := it_for (f := fun p : Int32 × tq_PI × tq_PL => FX6_shore_s63 p.2.1 p.2.2 48 a (zI (n : Int)) (zI (i : Int)) y p.1) (fun j (_ : Unit) => (zI (j : Int), I1, L1)) 48 (fun _ _ => True) (Post := fun o => o = (I1, L1)) (fun j s hj hs => by
        unfold FX6_shore_s63
        simp (disch := omega) only [zlet, obind, zI_lit, zI_neg, zI_add, zI_sub, zI_mul, zI_div, zI_le, zI_lt, zI_eq, zI_cl, irem, ile_t, ile_f, ilt_t, ilt_f, ieq_t, ieq_f, and_true, true_and, and_false, false_and, and_self, not_true_eq_false, not_false_eq_true, ↓reduceIte, Int.toNat_natCast, tqb_z, tqb_t, tqb_f, lgz]
        by_cases y0 : y = 0
        · rw [if_pos y0]; exact Or.inr ⟨_, rfl, rfl⟩
        · have n1 : n = 1 := hy.resolve_left y0
          rw [if_neg y0, if_neg (by omega)]; exact Or.inr ⟨_, rfl, rfl⟩) (fun s hs => by
        unfold FX6_shore_s63
        simp (disch := omega) only [zlet, obind, zI_lit, zI_neg, zI_add, zI_sub, zI_mul, zI_div, zI_le, zI_lt, zI_eq, zI_cl, irem, ile_t, ile_f, ilt_t, ilt_f, ieq_t, ieq_f, and_true, true_and, and_false, false_and, and_self, not_true_eq_false, not_false_eq_true, ↓reduceIte, Int.toNat_natCast, tqb_z, tqb_t, tqb_f]
        exact ⟨_, rfl, rfl⟩) (i + 1) () (by omega) (by omega) trivial
      rw [ho] at e
      exact e
    cases ea : air w h K i
    · rw [if_pos rfl]
      have y0 : (FX3_air I1 L1 a &&& ((1 : Int64) <<< (Int32.toInt64 (zI (i : Int)) &&& 63))) = 0 := (bb_hit hb).2 (by rw [c_air H1]; exact ea)
      rw [nil I1 L1 _ (Or.inl y0), obind]
      refine Or.inl ⟨(I1, L1), rfl, hs.same (fun a b x => ?_) (fun a b x => ?_)⟩
      · unfold XC Dsh at *; omega
      · by_cases g : a = i
        · right
          unfold fsh
          rw [g, ea]
          rcases hn with rfl | rfl <;> simp
        · left; unfold XC Dsh at *; omega
    · rw [if_neg (by simp)]
      have hy := bb_and_one (x := FX3_air I1 L1 a) hb (by rw [c_air H1]; exact ea)
      rcases hn with rfl | rfl
      · rw [if_pos (show ((1 : Nat) : Int) = 1 from rfl)]
        obtain ⟨I2, L2, e2, S2⟩ := hs.add H ha (s := i) (t := 0) (Y := XC 1 (i + 1) 0) (by rw [hy]; funext p; simp [two]) (bb_sup (c_sol H1) hy) (sb_k1 (air_0 ea)) (kup_z H.z (Or.inr (air_ar ea))) (by unfold fsh; simp [ea]) (fun a b x => by unfold XC Dsh lx at *; omega) (fun a b x => by unfold XC Dsh at *; omega) (fun a b x => by unfold XC Dsh at *; omega) (by unfold XC Dsh; omega)
        rw [e2, obind]
        dsimp only
        rw [nil I2 L2 _ (Or.inr rfl), obind]
        exact Or.inl ⟨(I2, L2), rfl, S2⟩
      · rw [if_neg (by decide)]
        obtain ⟨I2, L2, e2, S2⟩ := c_shore_in H ha hi hy ea (hs.same (Y := XC 2 i (i + 1)) (fun a b x => by unfold XC Dsh at *; omega) (fun a b x => by unfold XC Dsh at *; omega))
        have e2' : tq_it (fun p : Int32 × tq_PI × tq_PL => FX6_shore_s63 p.2.1 p.2.2 48 a (zI ((2 : Nat) : Int)) (zI (i : Int)) (FX3_air I1 L1 a &&& ((1 : Int64) <<< (Int32.toInt64 (zI (i : Int)) &&& 63))) p.1) tq_N (zI ((i : Int) + 1), I1, L1) = some (I2, L2) := e2
        rw [e2', obind]
        refine Or.inl ⟨(I2, L2), rfl, S2.same (fun a b x => ?_) (fun a b x => ?_)⟩
        · unfold XC Dsh at *; omega
        · by_cases g : b < 48
          · left; unfold XC Dsh at *; omega
          · by_cases g2 : a = i
            · right
              have : air w h K b = false := by
                cases q : air w h K b
                · rfl
                · exact absurd (air_48 H.k q) g
              unfold fsh
              rw [this]
              simp
            · left; unfold XC Dsh at *; omega) (fun s hs => by
    unfold FX6_shore_s23
    simp (disch := omega) only [zlet, obind, zI_lit, zI_neg, zI_add, zI_sub, zI_mul, zI_div, zI_le, zI_lt, zI_eq, zI_cl, irem, ile_t, ile_f, ilt_t, ilt_f, ieq_t, ieq_f, and_true, true_and, and_false, false_and, and_self, not_true_eq_false, not_false_eq_true, ↓reduceIte, Int.toNat_natCast, tqb_z, tqb_t, tqb_f]
    exact ⟨_, rfl, hs⟩) 0 (I, L) (by omega) (by omega) S
  exact ⟨I2, L2, e, ho⟩
theorem c_shore (H : HC I L a w h K) (ha : a ≠ 48) {n : Nat} (hn : n ≤ 2) : ∃ I2 L2, FX6_shore I L 48 a (zI (n : Int)) = some (I2, L2) ∧ SS w h K n I L (Dsh n) I2 L2 := by
  have S0 : ∀ X : Nat → Nat → Prop, (∀ q r, ¬ X q r) → SS w h K n I L X (tq_up2 I 48 1 (-1 : Int32)) (tq_up2 L 48 0 (0 : Int64)) := fun X hX => ⟨FC.up, FL.up, -1, 0, 0, Or.inl ⟨rfl, fun s t x => absurd x (hX s t)⟩, by omega, up_s _ _ _ _, by omega⟩
  unfold FX6_shore
  by_cases n0 : n = 0
  · subst n0
    rw [if_pos (show zI ((0 : Nat) : Int) = 0 from rfl)]
    have S1 := S0 (fun _ _ => False) (fun _ _ x => x)
    have H1 := (H.fi S1.1 ha).fl S1.2.1 ha
    obtain ⟨I2, L2, e2, S2⟩ := S1.add H ha (x := 0) (s := 0) (t := 0) (Y := Dsh 0) (M := K) (by funext p; rw [bb_0]; simp [two]) (by rw [← c_sol H1]; funext p; rw [bb_or, bb_0, Bool.or_false]) (fun p => Or.inl rfl) H.z (by unfold fsh; simp) (fun _ _ x => x.elim) (fun _ _ x => x.elim) (fun a b x => by unfold Dsh at x; omega) (by unfold Dsh; omega)
    rw [e2, obind]
    exact ⟨I2, L2, rfl, S2⟩
  · rw [if_neg (by rw [zI_lit, zI_eq (by omega) (by omega)]; omega)]
    obtain ⟨I2, L2, e2, S2⟩ := c_shore_out (I := tq_up2 I 48 1 (-1 : Int32)) (L := tq_up2 L 48 0 (0 : Int64)) H ha (n := n) (by omega) (S0 _ (fun q r x => by unfold XC at x; omega))
    have e2' : tq_it (fun p : Int32 × tq_PI × tq_PL => FX6_shore_s23 p.2.1 p.2.2 48 a (zI (n : Int)) p.1) tq_N ((0 : Int32), (tq_up2 I 48 1 (-1 : Int32)), (tq_up2 L 48 0 (0 : Int64))) = some (I2, L2) := e2
    rw [e2', obind]
    refine ⟨I2, L2, rfl, S2.same (fun a b x => x.1) (fun b c x => ?_)⟩
    by_cases g : b < 48
    · left; unfold XC; exact ⟨x, Or.inl g⟩
    · right
      have : air w h K b = false := by
        cases q : air w h K b
        · rfl
        · exact absurd (air_48 H.k q) g
      unfold fsh
      rw [this, if_neg n0]
      simp
end SH
