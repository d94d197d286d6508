noncomputable def FL_law_j1717L18 (S : Nat × (Nat → Int32)) (I : tq_PI) (L : tq_PL) (a1 : Nat) (a2 : Nat) (a3 : Int32) : Option ((Int32 × tq_PI × tq_PL) ⊕ ((tq_PI × tq_PL) ⊕ (Bool × tq_PI × tq_PL))) :=
  some (.inl ((a3 + 6), I, L))
noncomputable def FL_law_j583L18 (S : Nat × (Nat → Int32)) (I : tq_PI) (L : tq_PL) (a1 : Nat) (a2 : Nat) (a3 : Int32) (b0 : Int32) (b1 : Int32) (b2 : Int32) (b3 : Nat) (b4 : Int32) : Option ((Int32 × tq_PI × tq_PL) ⊕ ((tq_PI × tq_PL) ⊕ (Bool × tq_PI × tq_PL))) :=
  (if 0 ≤ (a3 + (4 : Int32)) ∧ (a3 + (4 : Int32)) < nI S.1 then ((FX12_cuts I L b3 b2 b1 b0 ((S.2 ((a3 + (4 : Int32))).toNatClampNeg))).bind fun p93 => (if b4 = p93.1 then (FL_law_j1717L18 S p93.2 L a1 a2 a3) else some (.inr (.inr (false, p93.2, L))))) else none)
noncomputable def FL_law_j551L18 (S : Nat × (Nat → Int32)) (I : tq_PI) (L : tq_PL) (a1 : Nat) (a2 : Nat) (a3 : Int32) (b0 : Int32) (b1 : Int32) (b2 : Int32) (b3 : Nat) : Option ((Int32 × tq_PI × tq_PL) ⊕ ((tq_PI × tq_PL) ⊕ (Bool × tq_PI × tq_PL))) :=
  (if 0 ≤ (a3 + (4 : Int32)) ∧ (a3 + (4 : Int32)) < nI S.1 then ((FX11_cuts I L b3 b2 b1 b0 ((S.2 ((a3 + (4 : Int32))).toNatClampNeg))).bind fun p87 => (if 0 ≤ (a3 + (1 : Int32)) ∧ (a3 + (1 : Int32)) < nI S.1 then (if 0 ≤ (a3 + (2 : Int32)) ∧ (a3 + (2 : Int32)) < nI S.1 then (if 0 ≤ (a3 + (3 : Int32)) ∧ (a3 + (3 : Int32)) < nI S.1 then (if (S.2 ((a3 + (3 : Int32))).toNatClampNeg) = 0 then (FL_law_j583L18 S I L a1 a2 a3 ((0 : Int32)) ((S.2 ((a3 + (2 : Int32))).toNatClampNeg)) ((S.2 ((a3 + (1 : Int32))).toNatClampNeg)) a2 p87) else (FL_law_j583L18 S I L a1 a2 a3 ((1 : Int32)) ((S.2 ((a3 + (2 : Int32))).toNatClampNeg)) ((S.2 ((a3 + (1 : Int32))).toNatClampNeg)) a2 p87)) else none) else none) else none)) else none)
noncomputable def FL_law_j733L18 (S : Nat × (Nat → Int32)) (I : tq_PI) (L : tq_PL) (a1 : Nat) (a2 : Nat) (a3 : Int32) (b0 : Int32) (b1 : Int32) (b2 : Int32) (b3 : Nat) (b4 : Int32) : Option ((Int32 × tq_PI × tq_PL) ⊕ ((tq_PI × tq_PL) ⊕ (Bool × tq_PI × tq_PL))) :=
  ((FX12_duel I L b3 b2 b1 b0).bind fun p125 => (if b4 = p125.1 then (FL_law_j1717L18 S p125.2.1 p125.2.2 a1 a2 a3) else some (.inr (.inr (false, p125.2.1, p125.2.2)))))
noncomputable def FL_law_j706L18 (S : Nat × (Nat → Int32)) (I : tq_PI) (L : tq_PL) (a1 : Nat) (a2 : Nat) (a3 : Int32) (b0 : Int32) (b1 : Int32) (b2 : Int32) (b3 : Nat) : Option ((Int32 × tq_PI × tq_PL) ⊕ ((tq_PI × tq_PL) ⊕ (Bool × tq_PI × tq_PL))) :=
  ((FX11_duel I L b3 b2 b1 b0).bind fun p120 => (if 0 ≤ (a3 + (1 : Int32)) ∧ (a3 + (1 : Int32)) < nI S.1 then (if 0 ≤ (a3 + (2 : Int32)) ∧ (a3 + (2 : Int32)) < nI S.1 then (if 0 ≤ (a3 + (3 : Int32)) ∧ (a3 + (3 : Int32)) < nI S.1 then (if (S.2 ((a3 + (3 : Int32))).toNatClampNeg) = 0 then (FL_law_j733L18 S p120.2 L a1 a2 a3 ((0 : Int32)) ((S.2 ((a3 + (2 : Int32))).toNatClampNeg)) ((S.2 ((a3 + (1 : Int32))).toNatClampNeg)) a2 p120.1) else (FL_law_j733L18 S p120.2 L a1 a2 a3 ((1 : Int32)) ((S.2 ((a3 + (2 : Int32))).toNatClampNeg)) ((S.2 ((a3 + (1 : Int32))).toNatClampNeg)) a2 p120.1)) else none) else none) else none))
noncomputable def FL_law_j782L18 (S : Nat × (Nat → Int32)) (I : tq_PI) (L : tq_PL) (a1 : Nat) (a2 : Nat) (a3 : Int32) (b0 : Int32) (b1 : Int32) (b2 : Nat) (b3 : Int32) : Option ((Int32 × tq_PI × tq_PL) ⊕ ((tq_PI × tq_PL) ⊕ (Bool × tq_PI × tq_PL))) :=
  ((FX12_border I L b2 b1 b0).bind fun p135 => (if b3 = p135.1 then (FL_law_j1717L18 S p135.2 L a1 a2 a3) else some (.inr (.inr (false, p135.2, L)))))
noncomputable def FL_law_j760L18 (S : Nat × (Nat → Int32)) (I : tq_PI) (L : tq_PL) (a1 : Nat) (a2 : Nat) (a3 : Int32) (b0 : Int32) (b1 : Int32) (b2 : Nat) : Option ((Int32 × tq_PI × tq_PL) ⊕ ((tq_PI × tq_PL) ⊕ (Bool × tq_PI × tq_PL))) :=
  ((FX11_border I L b2 b1 b0).bind fun p131 => (if 0 ≤ (a3 + (1 : Int32)) ∧ (a3 + (1 : Int32)) < nI S.1 then (if 0 ≤ (a3 + (2 : Int32)) ∧ (a3 + (2 : Int32)) < nI S.1 then (if (S.2 ((a3 + (2 : Int32))).toNatClampNeg) = 0 then (FL_law_j782L18 S I L a1 a2 a3 ((0 : Int32)) ((S.2 ((a3 + (1 : Int32))).toNatClampNeg)) a2 p131) else (FL_law_j782L18 S I L a1 a2 a3 ((1 : Int32)) ((S.2 ((a3 + (1 : Int32))).toNatClampNeg)) a2 p131)) else none) else none))
noncomputable def FL_law_j884L18 (S : Nat × (Nat → Int32)) (I : tq_PI) (L : tq_PL) (a1 : Nat) (a2 : Nat) (a3 : Int32) (b0 : Int32) (b1 : Int32) (b2 : Int32) (b3 : Nat) (b4 : Int64) : Option ((Int32 × tq_PI × tq_PL) ⊕ ((tq_PI × tq_PL) ⊕ (Bool × tq_PI × tq_PL))) :=
  ((FX12_quake I L b3 b2 b1 b0).bind fun p157 => (if (lg_cmp b4 p157.1) = 0 then (FL_law_j1717L18 S p157.2 L a1 a2 a3) else some (.inr (.inr (false, p157.2, L)))))
noncomputable def FL_law_j857L18 (S : Nat × (Nat → Int32)) (I : tq_PI) (L : tq_PL) (a1 : Nat) (a2 : Nat) (a3 : Int32) (b0 : Int32) (b1 : Int32) (b2 : Int32) (b3 : Nat) : Option ((Int32 × tq_PI × tq_PL) ⊕ ((tq_PI × tq_PL) ⊕ (Bool × tq_PI × tq_PL))) :=
  ((FX11_quake I L b3 b2 b1 b0).bind fun p152 => (if 0 ≤ (a3 + (1 : Int32)) ∧ (a3 + (1 : Int32)) < nI S.1 then (if 0 ≤ (a3 + (2 : Int32)) ∧ (a3 + (2 : Int32)) < nI S.1 then (if 0 ≤ (a3 + (3 : Int32)) ∧ (a3 + (3 : Int32)) < nI S.1 then (if (S.2 ((a3 + (3 : Int32))).toNatClampNeg) = 0 then (FL_law_j884L18 S I L a1 a2 a3 ((0 : Int32)) ((S.2 ((a3 + (2 : Int32))).toNatClampNeg)) ((S.2 ((a3 + (1 : Int32))).toNatClampNeg)) a2 p152) else (FL_law_j884L18 S I L a1 a2 a3 ((1 : Int32)) ((S.2 ((a3 + (2 : Int32))).toNatClampNeg)) ((S.2 ((a3 + (1 : Int32))).toNatClampNeg)) a2 p152)) else none) else none) else none))
noncomputable def FL_law_j1228L18 (S : Nat × (Nat → Int32)) (I : tq_PI) (L : tq_PL) (a1 : Nat) (a2 : Nat) (a3 : Int32) (b0 : Int32) (b1 : Int32) (b2 : Int32) (b3 : Nat) (b4 : Int32) : Option ((Int32 × tq_PI × tq_PL) ⊕ ((tq_PI × tq_PL) ⊕ (Bool × tq_PI × tq_PL))) :=
  ((FX12_steady I L b3 b2 b1 b0).bind fun p237 => (if b4 = p237.1 then (FL_law_j1717L18 S p237.2 L a1 a2 a3) else some (.inr (.inr (false, p237.2, L)))))
noncomputable def FL_law_j1201L18 (S : Nat × (Nat → Int32)) (I : tq_PI) (L : tq_PL) (a1 : Nat) (a2 : Nat) (a3 : Int32) (b0 : Int32) (b1 : Int32) (b2 : Int32) (b3 : Nat) : Option ((Int32 × tq_PI × tq_PL) ⊕ ((tq_PI × tq_PL) ⊕ (Bool × tq_PI × tq_PL))) :=
  ((FX11_steady I L b3 b2 b1 b0).bind fun p232 => (if 0 ≤ (a3 + (1 : Int32)) ∧ (a3 + (1 : Int32)) < nI S.1 then (if 0 ≤ (a3 + (2 : Int32)) ∧ (a3 + (2 : Int32)) < nI S.1 then (if 0 ≤ (a3 + (3 : Int32)) ∧ (a3 + (3 : Int32)) < nI S.1 then (if (S.2 ((a3 + (3 : Int32))).toNatClampNeg) = 0 then (FL_law_j1228L18 S I L a1 a2 a3 ((0 : Int32)) ((S.2 ((a3 + (2 : Int32))).toNatClampNeg)) ((S.2 ((a3 + (1 : Int32))).toNatClampNeg)) a2 p232) else (FL_law_j1228L18 S I L a1 a2 a3 ((1 : Int32)) ((S.2 ((a3 + (2 : Int32))).toNatClampNeg)) ((S.2 ((a3 + (1 : Int32))).toNatClampNeg)) a2 p232)) else none) else none) else none))
noncomputable def FL_law_j1373L18 (S : Nat × (Nat → Int32)) (I : tq_PI) (L : tq_PL) (a1 : Nat) (a2 : Nat) (a3 : Int32) (b0 : Int32) (b1 : Int32) (b2 : Int32) (b3 : Nat) (b4 : Int32) : Option ((Int32 × tq_PI × tq_PL) ⊕ ((tq_PI × tq_PL) ⊕ (Bool × tq_PI × tq_PL))) :=
  ((FX12_range I L b3 b2 b1 b0).bind fun p269 => (if b4 = p269.1 then (FL_law_j1717L18 S p269.2 L a1 a2 a3) else some (.inr (.inr (false, p269.2, L)))))
noncomputable def FL_law_j1346L18 (S : Nat × (Nat → Int32)) (I : tq_PI) (L : tq_PL) (a1 : Nat) (a2 : Nat) (a3 : Int32) (b0 : Int32) (b1 : Int32) (b2 : Int32) (b3 : Nat) : Option ((Int32 × tq_PI × tq_PL) ⊕ ((tq_PI × tq_PL) ⊕ (Bool × tq_PI × tq_PL))) :=
  ((FX11_range I L b3 b2 b1 b0).bind fun p264 => (if 0 ≤ (a3 + (1 : Int32)) ∧ (a3 + (1 : Int32)) < nI S.1 then (if 0 ≤ (a3 + (2 : Int32)) ∧ (a3 + (2 : Int32)) < nI S.1 then (if 0 ≤ (a3 + (3 : Int32)) ∧ (a3 + (3 : Int32)) < nI S.1 then (if (S.2 ((a3 + (3 : Int32))).toNatClampNeg) = 0 then (FL_law_j1373L18 S p264.2.1 p264.2.2 a1 a2 a3 ((0 : Int32)) ((S.2 ((a3 + (2 : Int32))).toNatClampNeg)) ((S.2 ((a3 + (1 : Int32))).toNatClampNeg)) a2 p264.1) else (FL_law_j1373L18 S p264.2.1 p264.2.2 a1 a2 a3 ((1 : Int32)) ((S.2 ((a3 + (2 : Int32))).toNatClampNeg)) ((S.2 ((a3 + (1 : Int32))).toNatClampNeg)) a2 p264.1)) else none) else none) else none))
noncomputable def FL_law_j1498L18 (S : Nat × (Nat → Int32)) (I : tq_PI) (L : tq_PL) (a1 : Nat) (a2 : Nat) (a3 : Int32) (b0 : Int32) (b1 : Int32) (b2 : Nat) (b3 : Int32) : Option ((Int32 × tq_PI × tq_PL) ⊕ ((tq_PI × tq_PL) ⊕ (Bool × tq_PI × tq_PL))) :=
  ((FX12_crest I L b2 b1 b0).bind fun p297 => (if b3 = p297.1 then (FL_law_j1717L18 S p297.2 L a1 a2 a3) else some (.inr (.inr (false, p297.2, L)))))
noncomputable def FL_law_j1476L18 (S : Nat × (Nat → Int32)) (I : tq_PI) (L : tq_PL) (a1 : Nat) (a2 : Nat) (a3 : Int32) (b0 : Int32) (b1 : Int32) (b2 : Nat) : Option ((Int32 × tq_PI × tq_PL) ⊕ ((tq_PI × tq_PL) ⊕ (Bool × tq_PI × tq_PL))) :=
  ((FX11_crest I L b2 b1 b0).bind fun p293 => (if 0 ≤ (a3 + (1 : Int32)) ∧ (a3 + (1 : Int32)) < nI S.1 then (if 0 ≤ (a3 + (2 : Int32)) ∧ (a3 + (2 : Int32)) < nI S.1 then (if (S.2 ((a3 + (2 : Int32))).toNatClampNeg) = 0 then (FL_law_j1498L18 S I L a1 a2 a3 ((0 : Int32)) ((S.2 ((a3 + (1 : Int32))).toNatClampNeg)) a2 p293) else (FL_law_j1498L18 S I L a1 a2 a3 ((1 : Int32)) ((S.2 ((a3 + (1 : Int32))).toNatClampNeg)) a2 p293)) else none) else none))
noncomputable def FL_law_s18 (S : Nat × (Nat → Int32)) (I : tq_PI) (L : tq_PL) (a1 : Nat) (a2 : Nat) (a3 : Int32) : Option ((Int32 × tq_PI × tq_PL) ⊕ ((tq_PI × tq_PL) ⊕ (Bool × tq_PI × tq_PL))) :=
  (if ((nI S.1) - (6 : Int32)) < a3 then some (.inr (.inl (I, L))) else (if 0 ≤ a3 ∧ a3 < nI S.1 then (if ((S.2 a3.toNatClampNeg) &&& (63 : Int32)) = 0 then (if 0 ≤ (a3 + (1 : Int32)) ∧ (a3 + (1 : Int32)) < nI S.1 then (if 0 ≤ (a3 + (2 : Int32)) ∧ (a3 + (2 : Int32)) < nI S.1 then (if 0 ≤ (a3 + (3 : Int32)) ∧ (a3 + (3 : Int32)) < nI S.1 then (if 0 ≤ (a3 + (4 : Int32)) ∧ (a3 + (4 : Int32)) < nI S.1 then (if 0 ≤ (a3 + (5 : Int32)) ∧ (a3 + (5 : Int32)) < nI S.1 then ((FX11_feed I L a1 ((S.2 ((a3 + (1 : Int32))).toNatClampNeg)) ((S.2 ((a3 + (2 : Int32))).toNatClampNeg)) ((S.2 ((a3 + (3 : Int32))).toNatClampNeg)) ((S.2 ((a3 + (4 : Int32))).toNatClampNeg)) ((S.2 ((a3 + (5 : Int32))).toNatClampNeg))).bind fun p9 => (if 0 ≤ (a3 + (1 : Int32)) ∧ (a3 + (1 : Int32)) < nI S.1 then (if 0 ≤ (a3 + (2 : Int32)) ∧ (a3 + (2 : Int32)) < nI S.1 then (if 0 ≤ (a3 + (3 : Int32)) ∧ (a3 + (3 : Int32)) < nI S.1 then (if 0 ≤ (a3 + (4 : Int32)) ∧ (a3 + (4 : Int32)) < nI S.1 then (if 0 ≤ (a3 + (5 : Int32)) ∧ (a3 + (5 : Int32)) < nI S.1 then ((FX12_feed p9.2 L a2 ((S.2 ((a3 + (1 : Int32))).toNatClampNeg)) ((S.2 ((a3 + (2 : Int32))).toNatClampNeg)) ((S.2 ((a3 + (3 : Int32))).toNatClampNeg)) ((S.2 ((a3 + (4 : Int32))).toNatClampNeg)) ((S.2 ((a3 + (5 : Int32))).toNatClampNeg))).bind fun p15 => (if p9.1 = p15.1 then (FL_law_j1717L18 S p15.2 L a1 a2 a3) else some (.inr (.inr (false, p15.2, L))))) else none) else none) else none) else none) else none)) else none) else none) else none) else none) else none) else (if ((S.2 a3.toNatClampNeg) &&& (63 : Int32)) = 1 then (if 0 ≤ (a3 + (1 : Int32)) ∧ (a3 + (1 : Int32)) < nI S.1 then (tq_let (FX11_end I L a1 ((S.2 ((a3 + (1 : Int32))).toNatClampNeg))) fun p19 => (if 0 ≤ (a3 + (1 : Int32)) ∧ (a3 + (1 : Int32)) < nI S.1 then ((FX12_end p19.2 L a2 ((S.2 ((a3 + (1 : Int32))).toNatClampNeg))).bind fun p21 => (if p19.1 = p21.1 then (FL_law_j1717L18 S p21.2 L a1 a2 a3) else some (.inr (.inr (false, p21.2, L))))) else none)) else none) else (if ((S.2 a3.toNatClampNeg) &&& (63 : Int32)) = 2 then (if 0 ≤ (a3 + (1 : Int32)) ∧ (a3 + (1 : Int32)) < nI S.1 then (if 0 ≤ (a3 + (2 : Int32)) ∧ (a3 + (2 : Int32)) < nI S.1 then ((FX11_text I L a1 ((S.2 ((a3 + (1 : Int32))).toNatClampNeg)) ((S.2 ((a3 + (2 : Int32))).toNatClampNeg))).bind fun p26 => (if 0 ≤ (a3 + (1 : Int32)) ∧ (a3 + (1 : Int32)) < nI S.1 then (if 0 ≤ (a3 + (2 : Int32)) ∧ (a3 + (2 : Int32)) < nI S.1 then ((FX12_text p26.2.1 p26.2.2 a2 ((S.2 ((a3 + (1 : Int32))).toNatClampNeg)) ((S.2 ((a3 + (2 : Int32))).toNatClampNeg))).bind fun p29 => (if p26.1 = p29.1 then (FL_law_j1717L18 S p29.2 p26.2.2 a1 a2 a3) else some (.inr (.inr (false, p29.2, p26.2.2))))) else none) else none)) else none) else none) else (if ((S.2 a3.toNatClampNeg) &&& (63 : Int32)) = 3 then (if 0 ≤ (a3 + (1 : Int32)) ∧ (a3 + (1 : Int32)) < nI S.1 then (tq_let (FX11_fault I L a1 ((S.2 ((a3 + (1 : Int32))).toNatClampNeg))) fun p33 => (if 0 ≤ (a3 + (1 : Int32)) ∧ (a3 + (1 : Int32)) < nI S.1 then ((FX12_fault I L a2 ((S.2 ((a3 + (1 : Int32))).toNatClampNeg))).bind fun p35 => (if p33 = p35 then (FL_law_j1717L18 S I L a1 a2 a3) else some (.inr (.inr (false, I, L))))) else none)) else none) else (if ((S.2 a3.toNatClampNeg) &&& (63 : Int32)) = 4 then (if 0 ≤ (a3 + (1 : Int32)) ∧ (a3 + (1 : Int32)) < nI S.1 then (if 0 ≤ (a3 + (2 : Int32)) ∧ (a3 + (2 : Int32)) < nI S.1 then ((FX11_hill I L a1 ((S.2 ((a3 + (1 : Int32))).toNatClampNeg)) ((S.2 ((a3 + (2 : Int32))).toNatClampNeg))).bind fun p40 => (if 0 ≤ (a3 + (1 : Int32)) ∧ (a3 + (1 : Int32)) < nI S.1 then (if 0 ≤ (a3 + (2 : Int32)) ∧ (a3 + (2 : Int32)) < nI S.1 then ((FX12_hill I L a2 ((S.2 ((a3 + (1 : Int32))).toNatClampNeg)) ((S.2 ((a3 + (2 : Int32))).toNatClampNeg))).bind fun p43 => (if p40 = p43.1 then (FL_law_j1717L18 S p43.2 L a1 a2 a3) else some (.inr (.inr (false, p43.2, L))))) else none) else none)) else none) else none) else (if ((S.2 a3.toNatClampNeg) &&& (63 : Int32)) = 5 then (if 0 ≤ (a3 + (1 : Int32)) ∧ (a3 + (1 : Int32)) < nI S.1 then (if 0 ≤ (a3 + (2 : Int32)) ∧ (a3 + (2 : Int32)) < nI S.1 then (if 0 ≤ (a3 + (3 : Int32)) ∧ (a3 + (3 : Int32)) < nI S.1 then ((FX11_deed I L a1 ((S.2 ((a3 + (1 : Int32))).toNatClampNeg)) ((S.2 ((a3 + (2 : Int32))).toNatClampNeg)) ((S.2 ((a3 + (3 : Int32))).toNatClampNeg))).bind fun p49 => (if 0 ≤ (a3 + (1 : Int32)) ∧ (a3 + (1 : Int32)) < nI S.1 then (if 0 ≤ (a3 + (2 : Int32)) ∧ (a3 + (2 : Int32)) < nI S.1 then (if 0 ≤ (a3 + (3 : Int32)) ∧ (a3 + (3 : Int32)) < nI S.1 then ((FX12_deed I L a2 ((S.2 ((a3 + (1 : Int32))).toNatClampNeg)) ((S.2 ((a3 + (2 : Int32))).toNatClampNeg)) ((S.2 ((a3 + (3 : Int32))).toNatClampNeg))).bind fun p53 => (if p49 = p53.1 then (FL_law_j1717L18 S p53.2 L a1 a2 a3) else some (.inr (.inr (false, p53.2, L))))) else none) else none) else none)) else none) else none) else none) else (if ((S.2 a3.toNatClampNeg) &&& (63 : Int32)) = 6 then (if 0 ≤ (a3 + (1 : Int32)) ∧ (a3 + (1 : Int32)) < nI S.1 then (if 0 ≤ (a3 + (2 : Int32)) ∧ (a3 + (2 : Int32)) < nI S.1 then ((FX11_stop I L a1 ((S.2 ((a3 + (1 : Int32))).toNatClampNeg)) ((S.2 ((a3 + (2 : Int32))).toNatClampNeg))).bind fun p58 => (if 0 ≤ (a3 + (1 : Int32)) ∧ (a3 + (1 : Int32)) < nI S.1 then (if 0 ≤ (a3 + (2 : Int32)) ∧ (a3 + (2 : Int32)) < nI S.1 then ((FX12_stop p58.2.1 p58.2.2 a2 ((S.2 ((a3 + (1 : Int32))).toNatClampNeg)) ((S.2 ((a3 + (2 : Int32))).toNatClampNeg))).bind fun p61 => (if p58.1 = p61.1 then (FL_law_j1717L18 S p61.2 p58.2.2 a1 a2 a3) else some (.inr (.inr (false, p61.2, p58.2.2))))) else none) else none)) else none) else none) else (if ((S.2 a3.toNatClampNeg) &&& (63 : Int32)) = 7 then (if 0 ≤ (a3 + (1 : Int32)) ∧ (a3 + (1 : Int32)) < nI S.1 then (if 0 ≤ (a3 + (2 : Int32)) ∧ (a3 + (2 : Int32)) < nI S.1 then (if 0 ≤ (a3 + (3 : Int32)) ∧ (a3 + (3 : Int32)) < nI S.1 then (if 0 ≤ (a3 + (4 : Int32)) ∧ (a3 + (4 : Int32)) < nI S.1 then ((FX11_state I L a1 ((S.2 ((a3 + (1 : Int32))).toNatClampNeg)) ((S.2 ((a3 + (2 : Int32))).toNatClampNeg)) ((S.2 ((a3 + (3 : Int32))).toNatClampNeg)) ((S.2 ((a3 + (4 : Int32))).toNatClampNeg))).bind fun p68 => (if 0 ≤ (a3 + (1 : Int32)) ∧ (a3 + (1 : Int32)) < nI S.1 then (if 0 ≤ (a3 + (2 : Int32)) ∧ (a3 + (2 : Int32)) < nI S.1 then (if 0 ≤ (a3 + (3 : Int32)) ∧ (a3 + (3 : Int32)) < nI S.1 then (if 0 ≤ (a3 + (4 : Int32)) ∧ (a3 + (4 : Int32)) < nI S.1 then ((FX12_state p68.2.1 p68.2.2 a2 ((S.2 ((a3 + (1 : Int32))).toNatClampNeg)) ((S.2 ((a3 + (2 : Int32))).toNatClampNeg)) ((S.2 ((a3 + (3 : Int32))).toNatClampNeg)) ((S.2 ((a3 + (4 : Int32))).toNatClampNeg))).bind fun p73 => (if p68.1 = p73.1 then (FL_law_j1717L18 S p73.2 p68.2.2 a1 a2 a3) else some (.inr (.inr (false, p73.2, p68.2.2))))) else none) else none) else none) else none)) else none) else none) else none) else none) else (if ((S.2 a3.toNatClampNeg) &&& (63 : Int32)) = 8 then (if 0 ≤ (a3 + (1 : Int32)) ∧ (a3 + (1 : Int32)) < nI S.1 then ((FX11_thick I L a1 ((S.2 ((a3 + (1 : Int32))).toNatClampNeg))).bind fun p77 => (if 0 ≤ (a3 + (1 : Int32)) ∧ (a3 + (1 : Int32)) < nI S.1 then ((FX12_thick I L a2 ((S.2 ((a3 + (1 : Int32))).toNatClampNeg))).bind fun p79 => (if p77 = p79.1 then (FL_law_j1717L18 S p79.2 L a1 a2 a3) else some (.inr (.inr (false, p79.2, L))))) else none)) else none) else (if ((S.2 a3.toNatClampNeg) &&& (63 : Int32)) = 9 then (if 0 ≤ (a3 + (1 : Int32)) ∧ (a3 + (1 : Int32)) < nI S.1 then (if 0 ≤ (a3 + (2 : Int32)) ∧ (a3 + (2 : Int32)) < nI S.1 then (if 0 ≤ (a3 + (3 : Int32)) ∧ (a3 + (3 : Int32)) < nI S.1 then (if (S.2 ((a3 + (3 : Int32))).toNatClampNeg) = 0 then (FL_law_j551L18 S I L a1 a2 a3 ((0 : Int32)) ((S.2 ((a3 + (2 : Int32))).toNatClampNeg)) ((S.2 ((a3 + (1 : Int32))).toNatClampNeg)) a1) else (FL_law_j551L18 S I L a1 a2 a3 ((1 : Int32)) ((S.2 ((a3 + (2 : Int32))).toNatClampNeg)) ((S.2 ((a3 + (1 : Int32))).toNatClampNeg)) a1)) else none) else none) else none) else (if ((S.2 a3.toNatClampNeg) &&& (63 : Int32)) = 10 then (if 0 ≤ (a3 + (1 : Int32)) ∧ (a3 + (1 : Int32)) < nI S.1 then (if 0 ≤ (a3 + (2 : Int32)) ∧ (a3 + (2 : Int32)) < nI S.1 then ((FX11_fell I L a1 ((S.2 ((a3 + (1 : Int32))).toNatClampNeg)) ((S.2 ((a3 + (2 : Int32))).toNatClampNeg))).bind fun p98 => (if 0 ≤ (a3 + (1 : Int32)) ∧ (a3 + (1 : Int32)) < nI S.1 then (if 0 ≤ (a3 + (2 : Int32)) ∧ (a3 + (2 : Int32)) < nI S.1 then ((FX12_fell I L a2 ((S.2 ((a3 + (1 : Int32))).toNatClampNeg)) ((S.2 ((a3 + (2 : Int32))).toNatClampNeg))).bind fun p101 => (if p98 = p101.1 then (FL_law_j1717L18 S p101.2 L a1 a2 a3) else some (.inr (.inr (false, p101.2, L))))) else none) else none)) else none) else none) else (if ((S.2 a3.toNatClampNeg) &&& (63 : Int32)) = 11 then (if 0 ≤ (a3 + (1 : Int32)) ∧ (a3 + (1 : Int32)) < nI S.1 then (if 0 ≤ (a3 + (2 : Int32)) ∧ (a3 + (2 : Int32)) < nI S.1 then (if 0 ≤ (a3 + (3 : Int32)) ∧ (a3 + (3 : Int32)) < nI S.1 then (if 0 ≤ (a3 + (4 : Int32)) ∧ (a3 + (4 : Int32)) < nI S.1 then ((FX11_rich I L a1 ((S.2 ((a3 + (1 : Int32))).toNatClampNeg)) ((S.2 ((a3 + (2 : Int32))).toNatClampNeg)) ((S.2 ((a3 + (3 : Int32))).toNatClampNeg)) ((S.2 ((a3 + (4 : Int32))).toNatClampNeg))).bind fun p108 => (if 0 ≤ (a3 + (1 : Int32)) ∧ (a3 + (1 : Int32)) < nI S.1 then (if 0 ≤ (a3 + (2 : Int32)) ∧ (a3 + (2 : Int32)) < nI S.1 then (if 0 ≤ (a3 + (3 : Int32)) ∧ (a3 + (3 : Int32)) < nI S.1 then (if 0 ≤ (a3 + (4 : Int32)) ∧ (a3 + (4 : Int32)) < nI S.1 then ((FX12_rich p108.2.1 p108.2.2 a2 ((S.2 ((a3 + (1 : Int32))).toNatClampNeg)) ((S.2 ((a3 + (2 : Int32))).toNatClampNeg)) ((S.2 ((a3 + (3 : Int32))).toNatClampNeg)) ((S.2 ((a3 + (4 : Int32))).toNatClampNeg))).bind fun p113 => (if p108.1 = p113.1 then (FL_law_j1717L18 S p113.2.1 p113.2.2 a1 a2 a3) else some (.inr (.inr (false, p113.2.1, p113.2.2))))) else none) else none) else none) else none)) else none) else none) else none) else none) else (if ((S.2 a3.toNatClampNeg) &&& (63 : Int32)) = 12 then (if 0 ≤ (a3 + (1 : Int32)) ∧ (a3 + (1 : Int32)) < nI S.1 then (if 0 ≤ (a3 + (2 : Int32)) ∧ (a3 + (2 : Int32)) < nI S.1 then (if 0 ≤ (a3 + (3 : Int32)) ∧ (a3 + (3 : Int32)) < nI S.1 then (if (S.2 ((a3 + (3 : Int32))).toNatClampNeg) = 0 then (FL_law_j706L18 S I L a1 a2 a3 ((0 : Int32)) ((S.2 ((a3 + (2 : Int32))).toNatClampNeg)) ((S.2 ((a3 + (1 : Int32))).toNatClampNeg)) a1) else (FL_law_j706L18 S I L a1 a2 a3 ((1 : Int32)) ((S.2 ((a3 + (2 : Int32))).toNatClampNeg)) ((S.2 ((a3 + (1 : Int32))).toNatClampNeg)) a1)) else none) else none) else none) else (if ((S.2 a3.toNatClampNeg) &&& (63 : Int32)) = 13 then (if 0 ≤ (a3 + (1 : Int32)) ∧ (a3 + (1 : Int32)) < nI S.1 then (if 0 ≤ (a3 + (2 : Int32)) ∧ (a3 + (2 : Int32)) < nI S.1 then (if (S.2 ((a3 + (2 : Int32))).toNatClampNeg) = 0 then (FL_law_j760L18 S I L a1 a2 a3 ((0 : Int32)) ((S.2 ((a3 + (1 : Int32))).toNatClampNeg)) a1) else (FL_law_j760L18 S I L a1 a2 a3 ((1 : Int32)) ((S.2 ((a3 + (1 : Int32))).toNatClampNeg)) a1)) else none) else none) else (if ((S.2 a3.toNatClampNeg) &&& (63 : Int32)) = 14 then (if 0 ≤ (a3 + (1 : Int32)) ∧ (a3 + (1 : Int32)) < nI S.1 then (if 0 ≤ (a3 + (2 : Int32)) ∧ (a3 + (2 : Int32)) < nI S.1 then (if 0 ≤ (a3 + (3 : Int32)) ∧ (a3 + (3 : Int32)) < nI S.1 then ((FX11_propped I L a1 ((S.2 ((a3 + (1 : Int32))).toNatClampNeg)) ((S.2 ((a3 + (2 : Int32))).toNatClampNeg)) ((S.2 ((a3 + (3 : Int32))).toNatClampNeg))).bind fun p141 => (if 0 ≤ (a3 + (1 : Int32)) ∧ (a3 + (1 : Int32)) < nI S.1 then (if 0 ≤ (a3 + (2 : Int32)) ∧ (a3 + (2 : Int32)) < nI S.1 then (if 0 ≤ (a3 + (3 : Int32)) ∧ (a3 + (3 : Int32)) < nI S.1 then ((FX12_propped I p141.2 a2 ((S.2 ((a3 + (1 : Int32))).toNatClampNeg)) ((S.2 ((a3 + (2 : Int32))).toNatClampNeg)) ((S.2 ((a3 + (3 : Int32))).toNatClampNeg))).bind fun p145 => (if p141.1 = p145.1 then (FL_law_j1717L18 S p145.2 p141.2 a1 a2 a3) else some (.inr (.inr (false, p145.2, p141.2))))) else none) else none) else none)) else none) else none) else none) else (if ((S.2 a3.toNatClampNeg) &&& (63 : Int32)) = 15 then (if 0 ≤ (a3 + (1 : Int32)) ∧ (a3 + (1 : Int32)) < nI S.1 then (if 0 ≤ (a3 + (2 : Int32)) ∧ (a3 + (2 : Int32)) < nI S.1 then (if 0 ≤ (a3 + (3 : Int32)) ∧ (a3 + (3 : Int32)) < nI S.1 then (if (S.2 ((a3 + (3 : Int32))).toNatClampNeg) = 0 then (FL_law_j857L18 S I L a1 a2 a3 ((0 : Int32)) ((S.2 ((a3 + (2 : Int32))).toNatClampNeg)) ((S.2 ((a3 + (1 : Int32))).toNatClampNeg)) a1) else (FL_law_j857L18 S I L a1 a2 a3 ((1 : Int32)) ((S.2 ((a3 + (2 : Int32))).toNatClampNeg)) ((S.2 ((a3 + (1 : Int32))).toNatClampNeg)) a1)) else none) else none) else none) else (if ((S.2 a3.toNatClampNeg) &&& (63 : Int32)) = 16 then (if 0 ≤ (a3 + (1 : Int32)) ∧ (a3 + (1 : Int32)) < nI S.1 then (if 0 ≤ (a3 + (2 : Int32)) ∧ (a3 + (2 : Int32)) < nI S.1 then (if 0 ≤ (a3 + (3 : Int32)) ∧ (a3 + (3 : Int32)) < nI S.1 then ((FX11_fact I L a1 ((S.2 ((a3 + (1 : Int32))).toNatClampNeg)) ((S.2 ((a3 + (2 : Int32))).toNatClampNeg)) ((S.2 ((a3 + (3 : Int32))).toNatClampNeg))).bind fun p163 => (if 0 ≤ (a3 + (1 : Int32)) ∧ (a3 + (1 : Int32)) < nI S.1 then (if 0 ≤ (a3 + (2 : Int32)) ∧ (a3 + (2 : Int32)) < nI S.1 then (if 0 ≤ (a3 + (3 : Int32)) ∧ (a3 + (3 : Int32)) < nI S.1 then ((FX12_fact I L a2 ((S.2 ((a3 + (1 : Int32))).toNatClampNeg)) ((S.2 ((a3 + (2 : Int32))).toNatClampNeg)) ((S.2 ((a3 + (3 : Int32))).toNatClampNeg))).bind fun p167 => (if p163 = p167.1 then (FL_law_j1717L18 S p167.2 L a1 a2 a3) else some (.inr (.inr (false, p167.2, L))))) else none) else none) else none)) else none) else none) else none) else (if ((S.2 a3.toNatClampNeg) &&& (63 : Int32)) = 17 then (if 0 ≤ (a3 + (1 : Int32)) ∧ (a3 + (1 : Int32)) < nI S.1 then (if 0 ≤ (a3 + (2 : Int32)) ∧ (a3 + (2 : Int32)) < nI S.1 then ((FX11_fits I L a1 ((S.2 ((a3 + (1 : Int32))).toNatClampNeg)) ((S.2 ((a3 + (2 : Int32))).toNatClampNeg))).bind fun p172 => (if 0 ≤ (a3 + (1 : Int32)) ∧ (a3 + (1 : Int32)) < nI S.1 then (if 0 ≤ (a3 + (2 : Int32)) ∧ (a3 + (2 : Int32)) < nI S.1 then ((FX12_fits p172.2.1 p172.2.2 a2 ((S.2 ((a3 + (1 : Int32))).toNatClampNeg)) ((S.2 ((a3 + (2 : Int32))).toNatClampNeg))).bind fun p175 => (if p172.1 = p175.1 then (FL_law_j1717L18 S p175.2 p172.2.2 a1 a2 a3) else some (.inr (.inr (false, p175.2, p172.2.2))))) else none) else none)) else none) else none) else (if ((S.2 a3.toNatClampNeg) &&& (63 : Int32)) = 18 then (if 0 ≤ (a3 + (1 : Int32)) ∧ (a3 + (1 : Int32)) < nI S.1 then (if 0 ≤ (a3 + (2 : Int32)) ∧ (a3 + (2 : Int32)) < nI S.1 then ((FX11_talk I L a1 ((S.2 ((a3 + (1 : Int32))).toNatClampNeg)) ((S.2 ((a3 + (2 : Int32))).toNatClampNeg))).bind fun p180 => (if 0 ≤ (a3 + (1 : Int32)) ∧ (a3 + (1 : Int32)) < nI S.1 then (if 0 ≤ (a3 + (2 : Int32)) ∧ (a3 + (2 : Int32)) < nI S.1 then ((FX12_talk p180.2 L a2 ((S.2 ((a3 + (1 : Int32))).toNatClampNeg)) ((S.2 ((a3 + (2 : Int32))).toNatClampNeg))).bind fun p183 => (if p180.1 = p183.1 then (FL_law_j1717L18 S p183.2 L a1 a2 a3) else some (.inr (.inr (false, p183.2, L))))) else none) else none)) else none) else none) else (if ((S.2 a3.toNatClampNeg) &&& (63 : Int32)) = 19 then (if 0 ≤ (a3 + (1 : Int32)) ∧ (a3 + (1 : Int32)) < nI S.1 then (if 0 ≤ (a3 + (2 : Int32)) ∧ (a3 + (2 : Int32)) < nI S.1 then (if 0 ≤ (a3 + (3 : Int32)) ∧ (a3 + (3 : Int32)) < nI S.1 then (if 0 ≤ (a3 + (4 : Int32)) ∧ (a3 + (4 : Int32)) < nI S.1 then ((FX11_drawn I L a1 ((S.2 ((a3 + (1 : Int32))).toNatClampNeg)) ((S.2 ((a3 + (2 : Int32))).toNatClampNeg)) ((S.2 ((a3 + (3 : Int32))).toNatClampNeg)) ((S.2 ((a3 + (4 : Int32))).toNatClampNeg))).bind fun p190 => (if 0 ≤ (a3 + (1 : Int32)) ∧ (a3 + (1 : Int32)) < nI S.1 then (if 0 ≤ (a3 + (2 : Int32)) ∧ (a3 + (2 : Int32)) < nI S.1 then (if 0 ≤ (a3 + (3 : Int32)) ∧ (a3 + (3 : Int32)) < nI S.1 then (if 0 ≤ (a3 + (4 : Int32)) ∧ (a3 + (4 : Int32)) < nI S.1 then ((FX12_drawn p190.2.1 p190.2.2 a2 ((S.2 ((a3 + (1 : Int32))).toNatClampNeg)) ((S.2 ((a3 + (2 : Int32))).toNatClampNeg)) ((S.2 ((a3 + (3 : Int32))).toNatClampNeg)) ((S.2 ((a3 + (4 : Int32))).toNatClampNeg))).bind fun p195 => (if p190.1 = p195.1 then (FL_law_j1717L18 S p195.2 p190.2.2 a1 a2 a3) else some (.inr (.inr (false, p195.2, p190.2.2))))) else none) else none) else none) else none)) else none) else none) else none) else none) else (if ((S.2 a3.toNatClampNeg) &&& (63 : Int32)) = 20 then (if 0 ≤ (a3 + (1 : Int32)) ∧ (a3 + (1 : Int32)) < nI S.1 then ((FX11_path I L a1 ((S.2 ((a3 + (1 : Int32))).toNatClampNeg))).bind fun p199 => (if 0 ≤ (a3 + (1 : Int32)) ∧ (a3 + (1 : Int32)) < nI S.1 then ((FX12_path I p199.2 a2 ((S.2 ((a3 + (1 : Int32))).toNatClampNeg))).bind fun p201 => (if p199.1 = p201.1 then (FL_law_j1717L18 S p201.2 p199.2 a1 a2 a3) else some (.inr (.inr (false, p201.2, p199.2))))) else none)) else none) else (if ((S.2 a3.toNatClampNeg) &&& (63 : Int32)) = 21 then (if 0 ≤ (a3 + (1 : Int32)) ∧ (a3 + (1 : Int32)) < nI S.1 then (if 0 ≤ (a3 + (2 : Int32)) ∧ (a3 + (2 : Int32)) < nI S.1 then ((FX11_caves I L a1 ((S.2 ((a3 + (1 : Int32))).toNatClampNeg)) ((S.2 ((a3 + (2 : Int32))).toNatClampNeg))).bind fun p206 => (if 0 ≤ (a3 + (1 : Int32)) ∧ (a3 + (1 : Int32)) < nI S.1 then (if 0 ≤ (a3 + (2 : Int32)) ∧ (a3 + (2 : Int32)) < nI S.1 then ((FX12_caves I L a2 ((S.2 ((a3 + (1 : Int32))).toNatClampNeg)) ((S.2 ((a3 + (2 : Int32))).toNatClampNeg))).bind fun p209 => (if p206 = p209.1 then (FL_law_j1717L18 S p209.2 L a1 a2 a3) else some (.inr (.inr (false, p209.2, L))))) else none) else none)) else none) else none) else (if ((S.2 a3.toNatClampNeg) &&& (63 : Int32)) = 22 then (if 0 ≤ (a3 + (1 : Int32)) ∧ (a3 + (1 : Int32)) < nI S.1 then (if 0 ≤ (a3 + (2 : Int32)) ∧ (a3 + (2 : Int32)) < nI S.1 then ((FX11_pillars I L a1 ((S.2 ((a3 + (1 : Int32))).toNatClampNeg)) ((S.2 ((a3 + (2 : Int32))).toNatClampNeg))).bind fun p214 => (if 0 ≤ (a3 + (1 : Int32)) ∧ (a3 + (1 : Int32)) < nI S.1 then (if 0 ≤ (a3 + (2 : Int32)) ∧ (a3 + (2 : Int32)) < nI S.1 then ((FX12_pillars I L a2 ((S.2 ((a3 + (1 : Int32))).toNatClampNeg)) ((S.2 ((a3 + (2 : Int32))).toNatClampNeg))).bind fun p217 => (if p214 = p217.1 then (FL_law_j1717L18 S p217.2 L a1 a2 a3) else some (.inr (.inr (false, p217.2, L))))) else none) else none)) else none) else none) else (if ((S.2 a3.toNatClampNeg) &&& (63 : Int32)) = 23 then (if 0 ≤ (a3 + (1 : Int32)) ∧ (a3 + (1 : Int32)) < nI S.1 then (if 0 ≤ (a3 + (2 : Int32)) ∧ (a3 + (2 : Int32)) < nI S.1 then ((FX11_nearer I L a1 ((S.2 ((a3 + (1 : Int32))).toNatClampNeg)) ((S.2 ((a3 + (2 : Int32))).toNatClampNeg))).bind fun p222 => (if 0 ≤ (a3 + (1 : Int32)) ∧ (a3 + (1 : Int32)) < nI S.1 then (if 0 ≤ (a3 + (2 : Int32)) ∧ (a3 + (2 : Int32)) < nI S.1 then ((FX12_nearer I L a2 ((S.2 ((a3 + (1 : Int32))).toNatClampNeg)) ((S.2 ((a3 + (2 : Int32))).toNatClampNeg))).bind fun p225 => (if p222 = p225.1 then (FL_law_j1717L18 S p225.2 L a1 a2 a3) else some (.inr (.inr (false, p225.2, L))))) else none) else none)) else none) else none) else (if ((S.2 a3.toNatClampNeg) &&& (63 : Int32)) = 24 then (if 0 ≤ (a3 + (1 : Int32)) ∧ (a3 + (1 : Int32)) < nI S.1 then (if 0 ≤ (a3 + (2 : Int32)) ∧ (a3 + (2 : Int32)) < nI S.1 then (if 0 ≤ (a3 + (3 : Int32)) ∧ (a3 + (3 : Int32)) < nI S.1 then (if (S.2 ((a3 + (3 : Int32))).toNatClampNeg) = 0 then (FL_law_j1201L18 S I L a1 a2 a3 ((0 : Int32)) ((S.2 ((a3 + (2 : Int32))).toNatClampNeg)) ((S.2 ((a3 + (1 : Int32))).toNatClampNeg)) a1) else (FL_law_j1201L18 S I L a1 a2 a3 ((1 : Int32)) ((S.2 ((a3 + (2 : Int32))).toNatClampNeg)) ((S.2 ((a3 + (1 : Int32))).toNatClampNeg)) a1)) else none) else none) else none) else (if ((S.2 a3.toNatClampNeg) &&& (63 : Int32)) = 25 then (if 0 ≤ (a3 + (1 : Int32)) ∧ (a3 + (1 : Int32)) < nI S.1 then (if 0 ≤ (a3 + (2 : Int32)) ∧ (a3 + (2 : Int32)) < nI S.1 then (if 0 ≤ (a3 + (3 : Int32)) ∧ (a3 + (3 : Int32)) < nI S.1 then ((FX11_race I L a1 ((S.2 ((a3 + (1 : Int32))).toNatClampNeg)) ((S.2 ((a3 + (2 : Int32))).toNatClampNeg)) ((S.2 ((a3 + (3 : Int32))).toNatClampNeg))).bind fun p243 => (if 0 ≤ (a3 + (1 : Int32)) ∧ (a3 + (1 : Int32)) < nI S.1 then (if 0 ≤ (a3 + (2 : Int32)) ∧ (a3 + (2 : Int32)) < nI S.1 then (if 0 ≤ (a3 + (3 : Int32)) ∧ (a3 + (3 : Int32)) < nI S.1 then ((FX12_race p243.2.1 p243.2.2 a2 ((S.2 ((a3 + (1 : Int32))).toNatClampNeg)) ((S.2 ((a3 + (2 : Int32))).toNatClampNeg)) ((S.2 ((a3 + (3 : Int32))).toNatClampNeg))).bind fun p247 => (if p243.1 = p247.1 then (FL_law_j1717L18 S p247.2 p243.2.2 a1 a2 a3) else some (.inr (.inr (false, p247.2, p243.2.2))))) else none) else none) else none)) else none) else none) else none) else (if ((S.2 a3.toNatClampNeg) &&& (63 : Int32)) = 26 then (if 0 ≤ (a3 + (1 : Int32)) ∧ (a3 + (1 : Int32)) < nI S.1 then (if 0 ≤ (a3 + (2 : Int32)) ∧ (a3 + (2 : Int32)) < nI S.1 then (if 0 ≤ (a3 + (3 : Int32)) ∧ (a3 + (3 : Int32)) < nI S.1 then ((FX11_after I L a1 ((S.2 ((a3 + (1 : Int32))).toNatClampNeg)) ((S.2 ((a3 + (2 : Int32))).toNatClampNeg)) ((S.2 ((a3 + (3 : Int32))).toNatClampNeg))).bind fun p253 => (if 0 ≤ (a3 + (1 : Int32)) ∧ (a3 + (1 : Int32)) < nI S.1 then (if 0 ≤ (a3 + (2 : Int32)) ∧ (a3 + (2 : Int32)) < nI S.1 then (if 0 ≤ (a3 + (3 : Int32)) ∧ (a3 + (3 : Int32)) < nI S.1 then ((FX12_after p253.2.1 p253.2.2 a2 ((S.2 ((a3 + (1 : Int32))).toNatClampNeg)) ((S.2 ((a3 + (2 : Int32))).toNatClampNeg)) ((S.2 ((a3 + (3 : Int32))).toNatClampNeg))).bind fun p257 => (if p253.1 = p257.1 then (FL_law_j1717L18 S p257.2 p253.2.2 a1 a2 a3) else some (.inr (.inr (false, p257.2, p253.2.2))))) else none) else none) else none)) else none) else none) else none) else (if ((S.2 a3.toNatClampNeg) &&& (63 : Int32)) = 27 then (if 0 ≤ (a3 + (1 : Int32)) ∧ (a3 + (1 : Int32)) < nI S.1 then (if 0 ≤ (a3 + (2 : Int32)) ∧ (a3 + (2 : Int32)) < nI S.1 then (if 0 ≤ (a3 + (3 : Int32)) ∧ (a3 + (3 : Int32)) < nI S.1 then (if (S.2 ((a3 + (3 : Int32))).toNatClampNeg) = 0 then (FL_law_j1346L18 S I L a1 a2 a3 ((0 : Int32)) ((S.2 ((a3 + (2 : Int32))).toNatClampNeg)) ((S.2 ((a3 + (1 : Int32))).toNatClampNeg)) a1) else (FL_law_j1346L18 S I L a1 a2 a3 ((1 : Int32)) ((S.2 ((a3 + (2 : Int32))).toNatClampNeg)) ((S.2 ((a3 + (1 : Int32))).toNatClampNeg)) a1)) else none) else none) else none) else (if ((S.2 a3.toNatClampNeg) &&& (63 : Int32)) = 28 then (if 0 ≤ (a3 + (1 : Int32)) ∧ (a3 + (1 : Int32)) < nI S.1 then (if 0 ≤ (a3 + (2 : Int32)) ∧ (a3 + (2 : Int32)) < nI S.1 then ((FX11_plain I L a1 ((S.2 ((a3 + (1 : Int32))).toNatClampNeg)) ((S.2 ((a3 + (2 : Int32))).toNatClampNeg))).bind fun p274 => (if 0 ≤ (a3 + (1 : Int32)) ∧ (a3 + (1 : Int32)) < nI S.1 then (if 0 ≤ (a3 + (2 : Int32)) ∧ (a3 + (2 : Int32)) < nI S.1 then ((FX12_plain I L a2 ((S.2 ((a3 + (1 : Int32))).toNatClampNeg)) ((S.2 ((a3 + (2 : Int32))).toNatClampNeg))).bind fun p277 => (if p274 = p277.1 then (FL_law_j1717L18 S p277.2 L a1 a2 a3) else some (.inr (.inr (false, p277.2, L))))) else none) else none)) else none) else none) else (if ((S.2 a3.toNatClampNeg) &&& (63 : Int32)) = 29 then (if 0 ≤ (a3 + (1 : Int32)) ∧ (a3 + (1 : Int32)) < nI S.1 then (if 0 ≤ (a3 + (2 : Int32)) ∧ (a3 + (2 : Int32)) < nI S.1 then (if 0 ≤ (a3 + (3 : Int32)) ∧ (a3 + (3 : Int32)) < nI S.1 then ((FX11_comes I L a1 ((S.2 ((a3 + (1 : Int32))).toNatClampNeg)) ((S.2 ((a3 + (2 : Int32))).toNatClampNeg)) ((S.2 ((a3 + (3 : Int32))).toNatClampNeg))).bind fun p283 => (if 0 ≤ (a3 + (1 : Int32)) ∧ (a3 + (1 : Int32)) < nI S.1 then (if 0 ≤ (a3 + (2 : Int32)) ∧ (a3 + (2 : Int32)) < nI S.1 then (if 0 ≤ (a3 + (3 : Int32)) ∧ (a3 + (3 : Int32)) < nI S.1 then ((FX12_comes I L a2 ((S.2 ((a3 + (1 : Int32))).toNatClampNeg)) ((S.2 ((a3 + (2 : Int32))).toNatClampNeg)) ((S.2 ((a3 + (3 : Int32))).toNatClampNeg))).bind fun p287 => (if p283 = p287.1 then (FL_law_j1717L18 S p287.2 L a1 a2 a3) else some (.inr (.inr (false, p287.2, L))))) else none) else none) else none)) else none) else none) else none) else (if ((S.2 a3.toNatClampNeg) &&& (63 : Int32)) = 30 then (if 0 ≤ (a3 + (1 : Int32)) ∧ (a3 + (1 : Int32)) < nI S.1 then (if 0 ≤ (a3 + (2 : Int32)) ∧ (a3 + (2 : Int32)) < nI S.1 then (if (S.2 ((a3 + (2 : Int32))).toNatClampNeg) = 0 then (FL_law_j1476L18 S I L a1 a2 a3 ((0 : Int32)) ((S.2 ((a3 + (1 : Int32))).toNatClampNeg)) a1) else (FL_law_j1476L18 S I L a1 a2 a3 ((1 : Int32)) ((S.2 ((a3 + (1 : Int32))).toNatClampNeg)) a1)) else none) else none) else (if ((S.2 a3.toNatClampNeg) &&& (63 : Int32)) = 31 then (if 0 ≤ (a3 + (1 : Int32)) ∧ (a3 + (1 : Int32)) < nI S.1 then (if 0 ≤ (a3 + (2 : Int32)) ∧ (a3 + (2 : Int32)) < nI S.1 then (if 0 ≤ (a3 + (3 : Int32)) ∧ (a3 + (3 : Int32)) < nI S.1 then ((FX11_shored I L a1 ((S.2 ((a3 + (1 : Int32))).toNatClampNeg)) ((S.2 ((a3 + (2 : Int32))).toNatClampNeg)) ((S.2 ((a3 + (3 : Int32))).toNatClampNeg))).bind fun p303 => (if 0 ≤ (a3 + (1 : Int32)) ∧ (a3 + (1 : Int32)) < nI S.1 then (if 0 ≤ (a3 + (2 : Int32)) ∧ (a3 + (2 : Int32)) < nI S.1 then (if 0 ≤ (a3 + (3 : Int32)) ∧ (a3 + (3 : Int32)) < nI S.1 then ((FX12_shored p303.2.1 p303.2.2 a2 ((S.2 ((a3 + (1 : Int32))).toNatClampNeg)) ((S.2 ((a3 + (2 : Int32))).toNatClampNeg)) ((S.2 ((a3 + (3 : Int32))).toNatClampNeg))).bind fun p307 => (if p303.1 = p307.1 then (FL_law_j1717L18 S p307.2 p303.2.2 a1 a2 a3) else some (.inr (.inr (false, p307.2, p303.2.2))))) else none) else none) else none)) else none) else none) else none) else (if ((S.2 a3.toNatClampNeg) &&& (63 : Int32)) = 32 then (if 0 ≤ (a3 + (1 : Int32)) ∧ (a3 + (1 : Int32)) < nI S.1 then (if 0 ≤ (a3 + (2 : Int32)) ∧ (a3 + (2 : Int32)) < nI S.1 then ((FX11_streak I L a1 ((S.2 ((a3 + (1 : Int32))).toNatClampNeg)) ((S.2 ((a3 + (2 : Int32))).toNatClampNeg))).bind fun p312 => (if 0 ≤ (a3 + (1 : Int32)) ∧ (a3 + (1 : Int32)) < nI S.1 then (if 0 ≤ (a3 + (2 : Int32)) ∧ (a3 + (2 : Int32)) < nI S.1 then ((FX12_streak I L a2 ((S.2 ((a3 + (1 : Int32))).toNatClampNeg)) ((S.2 ((a3 + (2 : Int32))).toNatClampNeg))).bind fun p315 => (if p312 = p315.1 then (FL_law_j1717L18 S p315.2 L a1 a2 a3) else some (.inr (.inr (false, p315.2, L))))) else none) else none)) else none) else none) else (if ((S.2 a3.toNatClampNeg) &&& (63 : Int32)) = 33 then (if 0 ≤ (a3 + (1 : Int32)) ∧ (a3 + (1 : Int32)) < nI S.1 then (if 0 ≤ (a3 + (2 : Int32)) ∧ (a3 + (2 : Int32)) < nI S.1 then (if 0 ≤ (a3 + (3 : Int32)) ∧ (a3 + (3 : Int32)) < nI S.1 then ((FX11_within I L a1 ((S.2 ((a3 + (1 : Int32))).toNatClampNeg)) ((S.2 ((a3 + (2 : Int32))).toNatClampNeg)) ((S.2 ((a3 + (3 : Int32))).toNatClampNeg))).bind fun p321 => (if 0 ≤ (a3 + (1 : Int32)) ∧ (a3 + (1 : Int32)) < nI S.1 then (if 0 ≤ (a3 + (2 : Int32)) ∧ (a3 + (2 : Int32)) < nI S.1 then (if 0 ≤ (a3 + (3 : Int32)) ∧ (a3 + (3 : Int32)) < nI S.1 then ((FX12_within I p321.2 a2 ((S.2 ((a3 + (1 : Int32))).toNatClampNeg)) ((S.2 ((a3 + (2 : Int32))).toNatClampNeg)) ((S.2 ((a3 + (3 : Int32))).toNatClampNeg))).bind fun p325 => (if p321.1 = p325.1 then (FL_law_j1717L18 S p325.2 p321.2 a1 a2 a3) else some (.inr (.inr (false, p325.2, p321.2))))) else none) else none) else none)) else none) else none) else none) else (if ((S.2 a3.toNatClampNeg) &&& (63 : Int32)) = 34 then (if 0 ≤ (a3 + (1 : Int32)) ∧ (a3 + (1 : Int32)) < nI S.1 then ((FX11_deepest I L a1 ((S.2 ((a3 + (1 : Int32))).toNatClampNeg))).bind fun p329 => (if 0 ≤ (a3 + (1 : Int32)) ∧ (a3 + (1 : Int32)) < nI S.1 then ((FX12_deepest I L a2 ((S.2 ((a3 + (1 : Int32))).toNatClampNeg))).bind fun p331 => (if p329 = p331 then (FL_law_j1717L18 S I L a1 a2 a3) else some (.inr (.inr (false, I, L))))) else none)) else none) else (if ((S.2 a3.toNatClampNeg) &&& (63 : Int32)) = 35 then (if 0 ≤ (a3 + (1 : Int32)) ∧ (a3 + (1 : Int32)) < nI S.1 then ((FX11_count I L a1 ((S.2 ((a3 + (1 : Int32))).toNatClampNeg))).bind fun p335 => (if 0 ≤ (a3 + (1 : Int32)) ∧ (a3 + (1 : Int32)) < nI S.1 then ((FX12_count I L a2 ((S.2 ((a3 + (1 : Int32))).toNatClampNeg))).bind fun p337 => (if p335 = p337 then (FL_law_j1717L18 S I L a1 a2 a3) else some (.inr (.inr (false, I, L))))) else none)) else none) else (if ((S.2 a3.toNatClampNeg) &&& (63 : Int32)) = 36 then (if 0 ≤ (a3 + (1 : Int32)) ∧ (a3 + (1 : Int32)) < nI S.1 then ((FX11_image I L a1 ((S.2 ((a3 + (1 : Int32))).toNatClampNeg))).bind fun p341 => (if 0 ≤ (a3 + (1 : Int32)) ∧ (a3 + (1 : Int32)) < nI S.1 then ((FX12_image p341.2.1 p341.2.2 a2 ((S.2 ((a3 + (1 : Int32))).toNatClampNeg))).bind fun p343 => (if (tq_b p341.1) = (tq_b p343.1) then (FL_law_j1717L18 S p343.2 p341.2.2 a1 a2 a3) else some (.inr (.inr (false, p343.2, p341.2.2))))) else none)) else none) else (if ((S.2 a3.toNatClampNeg) &&& (63 : Int32)) = 37 then (if 0 ≤ (a3 + (1 : Int32)) ∧ (a3 + (1 : Int32)) < nI S.1 then ((FX11_again I L a1 ((S.2 ((a3 + (1 : Int32))).toNatClampNeg))).bind fun p347 => (if 0 ≤ (a3 + (1 : Int32)) ∧ (a3 + (1 : Int32)) < nI S.1 then ((FX12_again p347.2.1 p347.2.2 a2 ((S.2 ((a3 + (1 : Int32))).toNatClampNeg))).bind fun p349 => (if (tq_b p347.1) = (tq_b p349.1) then (FL_law_j1717L18 S p349.2 p347.2.2 a1 a2 a3) else some (.inr (.inr (false, p349.2, p347.2.2))))) else none)) else none) else (FL_law_j1717L18 S I L a1 a2 a3))))))))))))))))))))))))))))))))))))))) else none))
noncomputable def FL_law (S : Nat × (Nat → Int32)) (I : tq_PI) (L : tq_PL) : Option (Bool × tq_PI × tq_PL) :=
  ((tq_it (fun p : Int32 × tq_PI × tq_PL => FL_law_s18 S p.2.1 p.2.2 0 136 p.1) tq_N ((0 : Int32), I, L)).bind fun p351 => p351.elim (fun t352 => some (true, t352.1, t352.2)) (fun t352 => some t352))
set_option maxRecDepth 100000 in
set_option maxHeartbeats 4000000 in
theorem FL_law_j1717L18_x {S : Nat × (Nat → Int32)} {d : Nat} (hS : S.1 < 100000) {I : tq_PI} {L : tq_PL} {a1 : Nat} {a2 : Nat} {a3 : Int32} (h1 : tq_sh0 a1 = 11) (h2 : tq_sh0 a2 = 12) {q0 : Option Value → tq_PI → tq_PL → Prop} {out : (Int32 × tq_PI × tq_PL) ⊕ ((tq_PI × tq_PL) ⊕ (Bool × tq_PI × tq_PL))} (hf : FL_law_j1717L18 S I L a1 a2 a3 = some out) (hk : Sum.elim (fun p : Int32 × tq_PI × tq_PL => tq_X S mL_law (d + 27) (0, 0) 18 ([.retAddr 0, .ref a1, .ref a2, .int p.1]) [] (tq_st p.2.1 p.2.2) (tq_Q q0)) (Sum.elim (fun p : tq_PI × tq_PL => tq_X S mL_law (d + 27) (0, 0) 1723 ([tq_u, tq_u, tq_u, tq_u]) [] (tq_st p.1 p.2) (tq_Q q0)) (fun p : Bool × tq_PI × tq_PL => q0 (some (.int (tq_b p.1))) p.2.1 p.2.2)) out) : tq_X S mL_law (d + 27) (0, 0) 1717 ([.retAddr 0, .ref a1, .ref a2, .int a3]) ([]) (tq_st I L) (tq_Q q0) := by
  unfold FL_law_j1717L18 at hf
  refine tq_iinc (a3 + 6) ([.retAddr 0, .ref a1, .ref a2, .int (a3 + 6)]) rL_law_1717 rfl (tq_inc (by decide)) (Nat.le_of_ble_eq_true rfl) rfl ?_
  refine tq_goto rL_law_1720 ?_
  have hf := Option.some.inj hf
  subst hf
  exact tq_forget _ (tq_le_s (tq_le_s (tq_le_s (tq_le_s tq_le_n)))) hk

set_option maxRecDepth 100000 in
set_option maxHeartbeats 4000000 in
theorem FL_law_j583L18_x {S : Nat × (Nat → Int32)} {d : Nat} (hS : S.1 < 100000) {I : tq_PI} {L : tq_PL} {a1 : Nat} {a2 : Nat} {a3 : Int32} {b0 : Int32} {b1 : Int32} {b2 : Int32} {b3 : Nat} {b4 : Int32} (h1 : tq_sh0 a1 = 11) (h2 : tq_sh0 a2 = 12) (k3 : tq_sh0 b3 = 12) {q0 : Option Value → tq_PI → tq_PL → Prop} {out : (Int32 × tq_PI × tq_PL) ⊕ ((tq_PI × tq_PL) ⊕ (Bool × tq_PI × tq_PL))} (hf : FL_law_j583L18 S I L a1 a2 a3 b0 b1 b2 b3 b4 = some out) (hk : Sum.elim (fun p : Int32 × tq_PI × tq_PL => tq_X S mL_law (d + 27) (0, 0) 18 ([.retAddr 0, .ref a1, .ref a2, .int p.1]) [] (tq_st p.2.1 p.2.2) (tq_Q q0)) (Sum.elim (fun p : tq_PI × tq_PL => tq_X S mL_law (d + 27) (0, 0) 1723 ([tq_u, tq_u, tq_u, tq_u]) [] (tq_st p.1 p.2) (tq_Q q0)) (fun p : Bool × tq_PI × tq_PL => q0 (some (.int (tq_b p.1))) p.2.1 p.2.2)) out) : tq_X S mL_law (d + 27) (0, 0) 583 ([.retAddr 0, .ref a1, .ref a2, .int a3]) ([.int b0, .int b1, .int b2, .ref b3, .int b4]) (tq_st I L) (tq_Q q0) := by
  unfold FL_law_j583L18 at hf
  refine tq_aloadF_n rL_law_583 rfl ?_
  refine tq_iload_n rL_law_584 rfl ?_
  refine tq_iconst (4 : Int32) rL_law_585 (by decide) ?_
  refine tq_iadd rL_law_586 ?_
  obtain ⟨g92, hf⟩ := tq_chk hf
  refine tq_sld rL_law_587 (tq_bi rfl hS g92) ?_
  obtain ⟨p93, e93, hf⟩ := Option.bind_eq_some_iff.mp hf
  refine ty_callVI p93.1 ([.int b2, .int b1, .int b0, .int (S.2 ((a3 + (4 : Int32))).toNatClampNeg)]) ([.int b4]) rL_law_588 l_L_58 moX12_cuts mvX12_cuts k3 rfl rfl (Nat.le_of_ble_eq_true rfl) ⟨rfl, rfl⟩ (CX12_cuts k3 e93) ?_
  refine tq_icmp_eq rL_law_591 (fun c94 => ?_) (fun c94 => ?_)
  · rw [if_pos c94] at hf
    exact tq_forget _ (tq_le_s (tq_le_s (tq_le_s (tq_le_s tq_le_n)))) (FL_law_j1717L18_x hS h1 h2 hf hk)
  · rw [if_neg c94] at hf
    refine tq_iconst (0 : Int32) rL_law_594 (by decide) ?_
    refine ty_zret (ty := .boolean) rL_law_595 rfl rfl rfl ?_
    have hf := Option.some.inj hf
    subst hf
    exact hk

set_option maxRecDepth 100000 in
set_option maxHeartbeats 4000000 in
theorem FL_law_j551L18_x {S : Nat × (Nat → Int32)} {d : Nat} (hS : S.1 < 100000) {I : tq_PI} {L : tq_PL} {a1 : Nat} {a2 : Nat} {a3 : Int32} {b0 : Int32} {b1 : Int32} {b2 : Int32} {b3 : Nat} (h1 : tq_sh0 a1 = 11) (h2 : tq_sh0 a2 = 12) (k3 : tq_sh0 b3 = 11) {q0 : Option Value → tq_PI → tq_PL → Prop} {out : (Int32 × tq_PI × tq_PL) ⊕ ((tq_PI × tq_PL) ⊕ (Bool × tq_PI × tq_PL))} (hf : FL_law_j551L18 S I L a1 a2 a3 b0 b1 b2 b3 = some out) (hk : Sum.elim (fun p : Int32 × tq_PI × tq_PL => tq_X S mL_law (d + 27) (0, 0) 18 ([.retAddr 0, .ref a1, .ref a2, .int p.1]) [] (tq_st p.2.1 p.2.2) (tq_Q q0)) (Sum.elim (fun p : tq_PI × tq_PL => tq_X S mL_law (d + 27) (0, 0) 1723 ([tq_u, tq_u, tq_u, tq_u]) [] (tq_st p.1 p.2) (tq_Q q0)) (fun p : Bool × tq_PI × tq_PL => q0 (some (.int (tq_b p.1))) p.2.1 p.2.2)) out) : tq_X S mL_law (d + 27) (0, 0) 551 ([.retAddr 0, .ref a1, .ref a2, .int a3]) ([.int b0, .int b1, .int b2, .ref b3]) (tq_st I L) (tq_Q q0) := by
  unfold FL_law_j551L18 at hf
  refine tq_aloadF_n rL_law_551 rfl ?_
  refine tq_iload_n rL_law_552 rfl ?_
  refine tq_iconst (4 : Int32) rL_law_553 (by decide) ?_
  refine tq_iadd rL_law_554 ?_
  obtain ⟨g86, hf⟩ := tq_chk hf
  refine tq_sld rL_law_555 (tq_bi rfl hS g86) ?_
  obtain ⟨p87, e87, hf⟩ := Option.bind_eq_some_iff.mp hf
  refine ty_callVI p87 ([.int b2, .int b1, .int b0, .int (S.2 ((a3 + (4 : Int32))).toNatClampNeg)]) ([]) rL_law_556 l_L_54 moX11_cuts mvX11_cuts k3 rfl rfl (Nat.le_of_ble_eq_true rfl) ⟨rfl, rfl⟩ (CX11_cuts k3 e87) ?_
  refine tq_aload_n rL_law_559 rfl ?_
  refine tq_aloadF_n rL_law_560 rfl ?_
  refine tq_iload_n rL_law_561 rfl ?_
  refine tq_iconst (1 : Int32) rL_law_562 (by decide) ?_
  refine tq_iadd rL_law_563 ?_
  obtain ⟨g88, hf⟩ := tq_chk hf
  refine tq_sld rL_law_564 (tq_bi rfl hS g88) ?_
  refine tq_aloadF_n rL_law_565 rfl ?_
  refine tq_iload_n rL_law_566 rfl ?_
  refine tq_iconst (2 : Int32) rL_law_567 (by decide) ?_
  refine tq_iadd rL_law_568 ?_
  obtain ⟨g89, hf⟩ := tq_chk hf
  refine tq_sld rL_law_569 (tq_bi rfl hS g89) ?_
  refine tq_aloadF_n rL_law_570 rfl ?_
  refine tq_iload_n rL_law_571 rfl ?_
  refine tq_iconst (3 : Int32) rL_law_572 (by decide) ?_
  refine tq_iadd rL_law_573 ?_
  obtain ⟨g90, hf⟩ := tq_chk hf
  refine tq_sld rL_law_574 (tq_bi rfl hS g90) ?_
  refine tq_if_eq rL_law_575 (fun c91 => ?_) (fun c91 => ?_)
  · rw [if_pos c91] at hf
    refine tq_iconst (0 : Int32) rL_law_582 (by decide) ?_
    exact tq_forget _ (tq_le_s (tq_le_s (tq_le_s (tq_le_s tq_le_n)))) (FL_law_j583L18_x hS h1 h2 h2 hf hk)
  · rw [if_neg c91] at hf
    refine tq_iconst (1 : Int32) rL_law_578 (by decide) ?_
    refine tq_goto rL_law_579 ?_
    exact tq_forget _ (tq_le_s (tq_le_s (tq_le_s (tq_le_s tq_le_n)))) (FL_law_j583L18_x hS h1 h2 h2 hf hk)

set_option maxRecDepth 100000 in
set_option maxHeartbeats 4000000 in
theorem FL_law_j733L18_x {S : Nat × (Nat → Int32)} {d : Nat} (hS : S.1 < 100000) {I : tq_PI} {L : tq_PL} {a1 : Nat} {a2 : Nat} {a3 : Int32} {b0 : Int32} {b1 : Int32} {b2 : Int32} {b3 : Nat} {b4 : Int32} (h1 : tq_sh0 a1 = 11) (h2 : tq_sh0 a2 = 12) (k3 : tq_sh0 b3 = 12) {q0 : Option Value → tq_PI → tq_PL → Prop} {out : (Int32 × tq_PI × tq_PL) ⊕ ((tq_PI × tq_PL) ⊕ (Bool × tq_PI × tq_PL))} (hf : FL_law_j733L18 S I L a1 a2 a3 b0 b1 b2 b3 b4 = some out) (hk : Sum.elim (fun p : Int32 × tq_PI × tq_PL => tq_X S mL_law (d + 27) (0, 0) 18 ([.retAddr 0, .ref a1, .ref a2, .int p.1]) [] (tq_st p.2.1 p.2.2) (tq_Q q0)) (Sum.elim (fun p : tq_PI × tq_PL => tq_X S mL_law (d + 27) (0, 0) 1723 ([tq_u, tq_u, tq_u, tq_u]) [] (tq_st p.1 p.2) (tq_Q q0)) (fun p : Bool × tq_PI × tq_PL => q0 (some (.int (tq_b p.1))) p.2.1 p.2.2)) out) : tq_X S mL_law (d + 27) (0, 0) 733 ([.retAddr 0, .ref a1, .ref a2, .int a3]) ([.int b0, .int b1, .int b2, .ref b3, .int b4]) (tq_st I L) (tq_Q q0) := by
  unfold FL_law_j733L18 at hf
  obtain ⟨p125, e125, hf⟩ := Option.bind_eq_some_iff.mp hf
  refine ty_callVI p125.1 ([.int b2, .int b1, .int b0]) ([.int b4]) rL_law_733 l_L_71 moX12_duel mvX12_duel k3 rfl rfl (Nat.le_of_ble_eq_true rfl) ⟨rfl, rfl⟩ (CX12_duel k3 e125) ?_
  refine tq_icmp_eq rL_law_736 (fun c126 => ?_) (fun c126 => ?_)
  · rw [if_pos c126] at hf
    exact tq_forget _ (tq_le_s (tq_le_s (tq_le_s (tq_le_s tq_le_n)))) (FL_law_j1717L18_x hS h1 h2 hf hk)
  · rw [if_neg c126] at hf
    refine tq_iconst (0 : Int32) rL_law_739 (by decide) ?_
    refine ty_zret (ty := .boolean) rL_law_740 rfl rfl rfl ?_
    have hf := Option.some.inj hf
    subst hf
    exact hk

set_option maxRecDepth 100000 in
set_option maxHeartbeats 4000000 in
theorem FL_law_j706L18_x {S : Nat × (Nat → Int32)} {d : Nat} (hS : S.1 < 100000) {I : tq_PI} {L : tq_PL} {a1 : Nat} {a2 : Nat} {a3 : Int32} {b0 : Int32} {b1 : Int32} {b2 : Int32} {b3 : Nat} (h1 : tq_sh0 a1 = 11) (h2 : tq_sh0 a2 = 12) (k3 : tq_sh0 b3 = 11) {q0 : Option Value → tq_PI → tq_PL → Prop} {out : (Int32 × tq_PI × tq_PL) ⊕ ((tq_PI × tq_PL) ⊕ (Bool × tq_PI × tq_PL))} (hf : FL_law_j706L18 S I L a1 a2 a3 b0 b1 b2 b3 = some out) (hk : Sum.elim (fun p : Int32 × tq_PI × tq_PL => tq_X S mL_law (d + 27) (0, 0) 18 ([.retAddr 0, .ref a1, .ref a2, .int p.1]) [] (tq_st p.2.1 p.2.2) (tq_Q q0)) (Sum.elim (fun p : tq_PI × tq_PL => tq_X S mL_law (d + 27) (0, 0) 1723 ([tq_u, tq_u, tq_u, tq_u]) [] (tq_st p.1 p.2) (tq_Q q0)) (fun p : Bool × tq_PI × tq_PL => q0 (some (.int (tq_b p.1))) p.2.1 p.2.2)) out) : tq_X S mL_law (d + 27) (0, 0) 706 ([.retAddr 0, .ref a1, .ref a2, .int a3]) ([.int b0, .int b1, .int b2, .ref b3]) (tq_st I L) (tq_Q q0) := by
  unfold FL_law_j706L18 at hf
  obtain ⟨p120, e120, hf⟩ := Option.bind_eq_some_iff.mp hf
  refine ty_callVI p120.1 ([.int b2, .int b1, .int b0]) ([]) rL_law_706 l_L_67 moX11_duel mvX11_duel k3 rfl rfl (Nat.le_of_ble_eq_true rfl) ⟨rfl, rfl⟩ (CX11_duel k3 e120) ?_
  refine tq_aload_n rL_law_709 rfl ?_
  refine tq_aloadF_n rL_law_710 rfl ?_
  refine tq_iload_n rL_law_711 rfl ?_
  refine tq_iconst (1 : Int32) rL_law_712 (by decide) ?_
  refine tq_iadd rL_law_713 ?_
  obtain ⟨g121, hf⟩ := tq_chk hf
  refine tq_sld rL_law_714 (tq_bi rfl hS g121) ?_
  refine tq_aloadF_n rL_law_715 rfl ?_
  refine tq_iload_n rL_law_716 rfl ?_
  refine tq_iconst (2 : Int32) rL_law_717 (by decide) ?_
  refine tq_iadd rL_law_718 ?_
  obtain ⟨g122, hf⟩ := tq_chk hf
  refine tq_sld rL_law_719 (tq_bi rfl hS g122) ?_
  refine tq_aloadF_n rL_law_720 rfl ?_
  refine tq_iload_n rL_law_721 rfl ?_
  refine tq_iconst (3 : Int32) rL_law_722 (by decide) ?_
  refine tq_iadd rL_law_723 ?_
  obtain ⟨g123, hf⟩ := tq_chk hf
  refine tq_sld rL_law_724 (tq_bi rfl hS g123) ?_
  refine tq_if_eq rL_law_725 (fun c124 => ?_) (fun c124 => ?_)
  · rw [if_pos c124] at hf
    refine tq_iconst (0 : Int32) rL_law_732 (by decide) ?_
    exact tq_forget _ (tq_le_s (tq_le_s (tq_le_s (tq_le_s tq_le_n)))) (FL_law_j733L18_x hS h1 h2 h2 hf hk)
  · rw [if_neg c124] at hf
    refine tq_iconst (1 : Int32) rL_law_728 (by decide) ?_
    refine tq_goto rL_law_729 ?_
    exact tq_forget _ (tq_le_s (tq_le_s (tq_le_s (tq_le_s tq_le_n)))) (FL_law_j733L18_x hS h1 h2 h2 hf hk)

set_option maxRecDepth 100000 in
set_option maxHeartbeats 4000000 in
theorem FL_law_j782L18_x {S : Nat × (Nat → Int32)} {d : Nat} (hS : S.1 < 100000) {I : tq_PI} {L : tq_PL} {a1 : Nat} {a2 : Nat} {a3 : Int32} {b0 : Int32} {b1 : Int32} {b2 : Nat} {b3 : Int32} (h1 : tq_sh0 a1 = 11) (h2 : tq_sh0 a2 = 12) (k2 : tq_sh0 b2 = 12) {q0 : Option Value → tq_PI → tq_PL → Prop} {out : (Int32 × tq_PI × tq_PL) ⊕ ((tq_PI × tq_PL) ⊕ (Bool × tq_PI × tq_PL))} (hf : FL_law_j782L18 S I L a1 a2 a3 b0 b1 b2 b3 = some out) (hk : Sum.elim (fun p : Int32 × tq_PI × tq_PL => tq_X S mL_law (d + 27) (0, 0) 18 ([.retAddr 0, .ref a1, .ref a2, .int p.1]) [] (tq_st p.2.1 p.2.2) (tq_Q q0)) (Sum.elim (fun p : tq_PI × tq_PL => tq_X S mL_law (d + 27) (0, 0) 1723 ([tq_u, tq_u, tq_u, tq_u]) [] (tq_st p.1 p.2) (tq_Q q0)) (fun p : Bool × tq_PI × tq_PL => q0 (some (.int (tq_b p.1))) p.2.1 p.2.2)) out) : tq_X S mL_law (d + 27) (0, 0) 782 ([.retAddr 0, .ref a1, .ref a2, .int a3]) ([.int b0, .int b1, .ref b2, .int b3]) (tq_st I L) (tq_Q q0) := by
  unfold FL_law_j782L18 at hf
  obtain ⟨p135, e135, hf⟩ := Option.bind_eq_some_iff.mp hf
  refine ty_callVI p135.1 ([.int b1, .int b0]) ([.int b3]) rL_law_782 l_L_76 moX12_border mvX12_border k2 rfl rfl (Nat.le_of_ble_eq_true rfl) ⟨rfl, rfl⟩ (CX12_border k2 e135) ?_
  refine tq_icmp_eq rL_law_785 (fun c136 => ?_) (fun c136 => ?_)
  · rw [if_pos c136] at hf
    exact tq_forget _ (tq_le_s (tq_le_s (tq_le_s (tq_le_s tq_le_n)))) (FL_law_j1717L18_x hS h1 h2 hf hk)
  · rw [if_neg c136] at hf
    refine tq_iconst (0 : Int32) rL_law_788 (by decide) ?_
    refine ty_zret (ty := .boolean) rL_law_789 rfl rfl rfl ?_
    have hf := Option.some.inj hf
    subst hf
    exact hk

set_option maxRecDepth 100000 in
set_option maxHeartbeats 4000000 in
theorem FL_law_j760L18_x {S : Nat × (Nat → Int32)} {d : Nat} (hS : S.1 < 100000) {I : tq_PI} {L : tq_PL} {a1 : Nat} {a2 : Nat} {a3 : Int32} {b0 : Int32} {b1 : Int32} {b2 : Nat} (h1 : tq_sh0 a1 = 11) (h2 : tq_sh0 a2 = 12) (k2 : tq_sh0 b2 = 11) {q0 : Option Value → tq_PI → tq_PL → Prop} {out : (Int32 × tq_PI × tq_PL) ⊕ ((tq_PI × tq_PL) ⊕ (Bool × tq_PI × tq_PL))} (hf : FL_law_j760L18 S I L a1 a2 a3 b0 b1 b2 = some out) (hk : Sum.elim (fun p : Int32 × tq_PI × tq_PL => tq_X S mL_law (d + 27) (0, 0) 18 ([.retAddr 0, .ref a1, .ref a2, .int p.1]) [] (tq_st p.2.1 p.2.2) (tq_Q q0)) (Sum.elim (fun p : tq_PI × tq_PL => tq_X S mL_law (d + 27) (0, 0) 1723 ([tq_u, tq_u, tq_u, tq_u]) [] (tq_st p.1 p.2) (tq_Q q0)) (fun p : Bool × tq_PI × tq_PL => q0 (some (.int (tq_b p.1))) p.2.1 p.2.2)) out) : tq_X S mL_law (d + 27) (0, 0) 760 ([.retAddr 0, .ref a1, .ref a2, .int a3]) ([.int b0, .int b1, .ref b2]) (tq_st I L) (tq_Q q0) := by
  unfold FL_law_j760L18 at hf
  obtain ⟨p131, e131, hf⟩ := Option.bind_eq_some_iff.mp hf
  refine ty_callVI p131 ([.int b1, .int b0]) ([]) rL_law_760 l_L_72 moX11_border mvX11_border k2 rfl rfl (Nat.le_of_ble_eq_true rfl) ⟨rfl, rfl⟩ (CX11_border k2 e131) ?_
  refine tq_aload_n rL_law_763 rfl ?_
  refine tq_aloadF_n rL_law_764 rfl ?_
  refine tq_iload_n rL_law_765 rfl ?_
  refine tq_iconst (1 : Int32) rL_law_766 (by decide) ?_
  refine tq_iadd rL_law_767 ?_
  obtain ⟨g132, hf⟩ := tq_chk hf
  refine tq_sld rL_law_768 (tq_bi rfl hS g132) ?_
  refine tq_aloadF_n rL_law_769 rfl ?_
  refine tq_iload_n rL_law_770 rfl ?_
  refine tq_iconst (2 : Int32) rL_law_771 (by decide) ?_
  refine tq_iadd rL_law_772 ?_
  obtain ⟨g133, hf⟩ := tq_chk hf
  refine tq_sld rL_law_773 (tq_bi rfl hS g133) ?_
  refine tq_if_eq rL_law_774 (fun c134 => ?_) (fun c134 => ?_)
  · rw [if_pos c134] at hf
    refine tq_iconst (0 : Int32) rL_law_781 (by decide) ?_
    exact tq_forget _ (tq_le_s (tq_le_s (tq_le_s (tq_le_s tq_le_n)))) (FL_law_j782L18_x hS h1 h2 h2 hf hk)
  · rw [if_neg c134] at hf
    refine tq_iconst (1 : Int32) rL_law_777 (by decide) ?_
    refine tq_goto rL_law_778 ?_
    exact tq_forget _ (tq_le_s (tq_le_s (tq_le_s (tq_le_s tq_le_n)))) (FL_law_j782L18_x hS h1 h2 h2 hf hk)

set_option maxRecDepth 100000 in
set_option maxHeartbeats 4000000 in
theorem FL_law_j884L18_x {S : Nat × (Nat → Int32)} {d : Nat} (hS : S.1 < 100000) {I : tq_PI} {L : tq_PL} {a1 : Nat} {a2 : Nat} {a3 : Int32} {b0 : Int32} {b1 : Int32} {b2 : Int32} {b3 : Nat} {b4 : Int64} (h1 : tq_sh0 a1 = 11) (h2 : tq_sh0 a2 = 12) (k3 : tq_sh0 b3 = 12) {q0 : Option Value → tq_PI → tq_PL → Prop} {out : (Int32 × tq_PI × tq_PL) ⊕ ((tq_PI × tq_PL) ⊕ (Bool × tq_PI × tq_PL))} (hf : FL_law_j884L18 S I L a1 a2 a3 b0 b1 b2 b3 b4 = some out) (hk : Sum.elim (fun p : Int32 × tq_PI × tq_PL => tq_X S mL_law (d + 27) (0, 0) 18 ([.retAddr 0, .ref a1, .ref a2, .int p.1]) [] (tq_st p.2.1 p.2.2) (tq_Q q0)) (Sum.elim (fun p : tq_PI × tq_PL => tq_X S mL_law (d + 27) (0, 0) 1723 ([tq_u, tq_u, tq_u, tq_u]) [] (tq_st p.1 p.2) (tq_Q q0)) (fun p : Bool × tq_PI × tq_PL => q0 (some (.int (tq_b p.1))) p.2.1 p.2.2)) out) : tq_X S mL_law (d + 27) (0, 0) 884 ([.retAddr 0, .ref a1, .ref a2, .int a3]) ([.int b0, .int b1, .int b2, .ref b3, .long b4]) (tq_st I L) (tq_Q q0) := by
  unfold FL_law_j884L18 at hf
  obtain ⟨p157, e157, hf⟩ := Option.bind_eq_some_iff.mp hf
  refine ty_callVJ p157.1 ([.int b2, .int b1, .int b0]) ([.long b4]) rL_law_884 l_L_85 moX12_quake mvX12_quake k3 rfl rfl (Nat.le_of_ble_eq_true rfl) ⟨rfl, rfl⟩ (CX12_quake k3 e157) ?_
  refine tq_lcmp rL_law_887 ?_
  refine tq_if_eq rL_law_888 (fun c158 => ?_) (fun c158 => ?_)
  · rw [if_pos c158] at hf
    exact tq_forget _ (tq_le_s (tq_le_s (tq_le_s (tq_le_s tq_le_n)))) (FL_law_j1717L18_x hS h1 h2 hf hk)
  · rw [if_neg c158] at hf
    refine tq_iconst (0 : Int32) rL_law_891 (by decide) ?_
    refine ty_zret (ty := .boolean) rL_law_892 rfl rfl rfl ?_
    have hf := Option.some.inj hf
    subst hf
    exact hk

set_option maxRecDepth 100000 in
set_option maxHeartbeats 4000000 in
theorem FL_law_j857L18_x {S : Nat × (Nat → Int32)} {d : Nat} (hS : S.1 < 100000) {I : tq_PI} {L : tq_PL} {a1 : Nat} {a2 : Nat} {a3 : Int32} {b0 : Int32} {b1 : Int32} {b2 : Int32} {b3 : Nat} (h1 : tq_sh0 a1 = 11) (h2 : tq_sh0 a2 = 12) (k3 : tq_sh0 b3 = 11) {q0 : Option Value → tq_PI → tq_PL → Prop} {out : (Int32 × tq_PI × tq_PL) ⊕ ((tq_PI × tq_PL) ⊕ (Bool × tq_PI × tq_PL))} (hf : FL_law_j857L18 S I L a1 a2 a3 b0 b1 b2 b3 = some out) (hk : Sum.elim (fun p : Int32 × tq_PI × tq_PL => tq_X S mL_law (d + 27) (0, 0) 18 ([.retAddr 0, .ref a1, .ref a2, .int p.1]) [] (tq_st p.2.1 p.2.2) (tq_Q q0)) (Sum.elim (fun p : tq_PI × tq_PL => tq_X S mL_law (d + 27) (0, 0) 1723 ([tq_u, tq_u, tq_u, tq_u]) [] (tq_st p.1 p.2) (tq_Q q0)) (fun p : Bool × tq_PI × tq_PL => q0 (some (.int (tq_b p.1))) p.2.1 p.2.2)) out) : tq_X S mL_law (d + 27) (0, 0) 857 ([.retAddr 0, .ref a1, .ref a2, .int a3]) ([.int b0, .int b1, .int b2, .ref b3]) (tq_st I L) (tq_Q q0) := by
  unfold FL_law_j857L18 at hf
  obtain ⟨p152, e152, hf⟩ := Option.bind_eq_some_iff.mp hf
  refine ty_callVJ p152 ([.int b2, .int b1, .int b0]) ([]) rL_law_857 l_L_81 moX11_quake mvX11_quake k3 rfl rfl (Nat.le_of_ble_eq_true rfl) ⟨rfl, rfl⟩ (CX11_quake k3 e152) ?_
  refine tq_aload_n rL_law_860 rfl ?_
  refine tq_aloadF_n rL_law_861 rfl ?_
  refine tq_iload_n rL_law_862 rfl ?_
  refine tq_iconst (1 : Int32) rL_law_863 (by decide) ?_
  refine tq_iadd rL_law_864 ?_
  obtain ⟨g153, hf⟩ := tq_chk hf
  refine tq_sld rL_law_865 (tq_bi rfl hS g153) ?_
  refine tq_aloadF_n rL_law_866 rfl ?_
  refine tq_iload_n rL_law_867 rfl ?_
  refine tq_iconst (2 : Int32) rL_law_868 (by decide) ?_
  refine tq_iadd rL_law_869 ?_
  obtain ⟨g154, hf⟩ := tq_chk hf
  refine tq_sld rL_law_870 (tq_bi rfl hS g154) ?_
  refine tq_aloadF_n rL_law_871 rfl ?_
  refine tq_iload_n rL_law_872 rfl ?_
  refine tq_iconst (3 : Int32) rL_law_873 (by decide) ?_
  refine tq_iadd rL_law_874 ?_
  obtain ⟨g155, hf⟩ := tq_chk hf
  refine tq_sld rL_law_875 (tq_bi rfl hS g155) ?_
  refine tq_if_eq rL_law_876 (fun c156 => ?_) (fun c156 => ?_)
  · rw [if_pos c156] at hf
    refine tq_iconst (0 : Int32) rL_law_883 (by decide) ?_
    exact tq_forget _ (tq_le_s (tq_le_s (tq_le_s (tq_le_s tq_le_n)))) (FL_law_j884L18_x hS h1 h2 h2 hf hk)
  · rw [if_neg c156] at hf
    refine tq_iconst (1 : Int32) rL_law_879 (by decide) ?_
    refine tq_goto rL_law_880 ?_
    exact tq_forget _ (tq_le_s (tq_le_s (tq_le_s (tq_le_s tq_le_n)))) (FL_law_j884L18_x hS h1 h2 h2 hf hk)

set_option maxRecDepth 100000 in
set_option maxHeartbeats 4000000 in
theorem FL_law_j1228L18_x {S : Nat × (Nat → Int32)} {d : Nat} (hS : S.1 < 100000) {I : tq_PI} {L : tq_PL} {a1 : Nat} {a2 : Nat} {a3 : Int32} {b0 : Int32} {b1 : Int32} {b2 : Int32} {b3 : Nat} {b4 : Int32} (h1 : tq_sh0 a1 = 11) (h2 : tq_sh0 a2 = 12) (k3 : tq_sh0 b3 = 12) {q0 : Option Value → tq_PI → tq_PL → Prop} {out : (Int32 × tq_PI × tq_PL) ⊕ ((tq_PI × tq_PL) ⊕ (Bool × tq_PI × tq_PL))} (hf : FL_law_j1228L18 S I L a1 a2 a3 b0 b1 b2 b3 b4 = some out) (hk : Sum.elim (fun p : Int32 × tq_PI × tq_PL => tq_X S mL_law (d + 27) (0, 0) 18 ([.retAddr 0, .ref a1, .ref a2, .int p.1]) [] (tq_st p.2.1 p.2.2) (tq_Q q0)) (Sum.elim (fun p : tq_PI × tq_PL => tq_X S mL_law (d + 27) (0, 0) 1723 ([tq_u, tq_u, tq_u, tq_u]) [] (tq_st p.1 p.2) (tq_Q q0)) (fun p : Bool × tq_PI × tq_PL => q0 (some (.int (tq_b p.1))) p.2.1 p.2.2)) out) : tq_X S mL_law (d + 27) (0, 0) 1228 ([.retAddr 0, .ref a1, .ref a2, .int a3]) ([.int b0, .int b1, .int b2, .ref b3, .int b4]) (tq_st I L) (tq_Q q0) := by
  unfold FL_law_j1228L18 at hf
  obtain ⟨p237, e237, hf⟩ := Option.bind_eq_some_iff.mp hf
  refine ty_callVI p237.1 ([.int b2, .int b1, .int b0]) ([.int b4]) rL_law_1228 l_L_121 moX12_steady mvX12_steady k3 rfl rfl (Nat.le_of_ble_eq_true rfl) ⟨rfl, rfl⟩ (CX12_steady k3 e237) ?_
  refine tq_icmp_eq rL_law_1231 (fun c238 => ?_) (fun c238 => ?_)
  · rw [if_pos c238] at hf
    exact tq_forget _ (tq_le_s (tq_le_s (tq_le_s (tq_le_s tq_le_n)))) (FL_law_j1717L18_x hS h1 h2 hf hk)
  · rw [if_neg c238] at hf
    refine tq_iconst (0 : Int32) rL_law_1234 (by decide) ?_
    refine ty_zret (ty := .boolean) rL_law_1235 rfl rfl rfl ?_
    have hf := Option.some.inj hf
    subst hf
    exact hk

set_option maxRecDepth 100000 in
set_option maxHeartbeats 4000000 in
theorem FL_law_j1201L18_x {S : Nat × (Nat → Int32)} {d : Nat} (hS : S.1 < 100000) {I : tq_PI} {L : tq_PL} {a1 : Nat} {a2 : Nat} {a3 : Int32} {b0 : Int32} {b1 : Int32} {b2 : Int32} {b3 : Nat} (h1 : tq_sh0 a1 = 11) (h2 : tq_sh0 a2 = 12) (k3 : tq_sh0 b3 = 11) {q0 : Option Value → tq_PI → tq_PL → Prop} {out : (Int32 × tq_PI × tq_PL) ⊕ ((tq_PI × tq_PL) ⊕ (Bool × tq_PI × tq_PL))} (hf : FL_law_j1201L18 S I L a1 a2 a3 b0 b1 b2 b3 = some out) (hk : Sum.elim (fun p : Int32 × tq_PI × tq_PL => tq_X S mL_law (d + 27) (0, 0) 18 ([.retAddr 0, .ref a1, .ref a2, .int p.1]) [] (tq_st p.2.1 p.2.2) (tq_Q q0)) (Sum.elim (fun p : tq_PI × tq_PL => tq_X S mL_law (d + 27) (0, 0) 1723 ([tq_u, tq_u, tq_u, tq_u]) [] (tq_st p.1 p.2) (tq_Q q0)) (fun p : Bool × tq_PI × tq_PL => q0 (some (.int (tq_b p.1))) p.2.1 p.2.2)) out) : tq_X S mL_law (d + 27) (0, 0) 1201 ([.retAddr 0, .ref a1, .ref a2, .int a3]) ([.int b0, .int b1, .int b2, .ref b3]) (tq_st I L) (tq_Q q0) := by
  unfold FL_law_j1201L18 at hf
  obtain ⟨p232, e232, hf⟩ := Option.bind_eq_some_iff.mp hf
  refine ty_callVI p232 ([.int b2, .int b1, .int b0]) ([]) rL_law_1201 l_L_118 moX11_steady mvX11_steady k3 rfl rfl (Nat.le_of_ble_eq_true rfl) ⟨rfl, rfl⟩ (CX11_steady k3 e232) ?_
  refine tq_aload_n rL_law_1204 rfl ?_
  refine tq_aloadF_n rL_law_1205 rfl ?_
  refine tq_iload_n rL_law_1206 rfl ?_
  refine tq_iconst (1 : Int32) rL_law_1207 (by decide) ?_
  refine tq_iadd rL_law_1208 ?_
  obtain ⟨g233, hf⟩ := tq_chk hf
  refine tq_sld rL_law_1209 (tq_bi rfl hS g233) ?_
  refine tq_aloadF_n rL_law_1210 rfl ?_
  refine tq_iload_n rL_law_1211 rfl ?_
  refine tq_iconst (2 : Int32) rL_law_1212 (by decide) ?_
  refine tq_iadd rL_law_1213 ?_
  obtain ⟨g234, hf⟩ := tq_chk hf
  refine tq_sld rL_law_1214 (tq_bi rfl hS g234) ?_
  refine tq_aloadF_n rL_law_1215 rfl ?_
  refine tq_iload_n rL_law_1216 rfl ?_
  refine tq_iconst (3 : Int32) rL_law_1217 (by decide) ?_
  refine tq_iadd rL_law_1218 ?_
  obtain ⟨g235, hf⟩ := tq_chk hf
  refine tq_sld rL_law_1219 (tq_bi rfl hS g235) ?_
  refine tq_if_eq rL_law_1220 (fun c236 => ?_) (fun c236 => ?_)
  · rw [if_pos c236] at hf
    refine tq_iconst (0 : Int32) rL_law_1227 (by decide) ?_
    exact tq_forget _ (tq_le_s (tq_le_s (tq_le_s (tq_le_s tq_le_n)))) (FL_law_j1228L18_x hS h1 h2 h2 hf hk)
  · rw [if_neg c236] at hf
    refine tq_iconst (1 : Int32) rL_law_1223 (by decide) ?_
    refine tq_goto rL_law_1224 ?_
    exact tq_forget _ (tq_le_s (tq_le_s (tq_le_s (tq_le_s tq_le_n)))) (FL_law_j1228L18_x hS h1 h2 h2 hf hk)

set_option maxRecDepth 100000 in
set_option maxHeartbeats 4000000 in
theorem FL_law_j1373L18_x {S : Nat × (Nat → Int32)} {d : Nat} (hS : S.1 < 100000) {I : tq_PI} {L : tq_PL} {a1 : Nat} {a2 : Nat} {a3 : Int32} {b0 : Int32} {b1 : Int32} {b2 : Int32} {b3 : Nat} {b4 : Int32} (h1 : tq_sh0 a1 = 11) (h2 : tq_sh0 a2 = 12) (k3 : tq_sh0 b3 = 12) {q0 : Option Value → tq_PI → tq_PL → Prop} {out : (Int32 × tq_PI × tq_PL) ⊕ ((tq_PI × tq_PL) ⊕ (Bool × tq_PI × tq_PL))} (hf : FL_law_j1373L18 S I L a1 a2 a3 b0 b1 b2 b3 b4 = some out) (hk : Sum.elim (fun p : Int32 × tq_PI × tq_PL => tq_X S mL_law (d + 27) (0, 0) 18 ([.retAddr 0, .ref a1, .ref a2, .int p.1]) [] (tq_st p.2.1 p.2.2) (tq_Q q0)) (Sum.elim (fun p : tq_PI × tq_PL => tq_X S mL_law (d + 27) (0, 0) 1723 ([tq_u, tq_u, tq_u, tq_u]) [] (tq_st p.1 p.2) (tq_Q q0)) (fun p : Bool × tq_PI × tq_PL => q0 (some (.int (tq_b p.1))) p.2.1 p.2.2)) out) : tq_X S mL_law (d + 27) (0, 0) 1373 ([.retAddr 0, .ref a1, .ref a2, .int a3]) ([.int b0, .int b1, .int b2, .ref b3, .int b4]) (tq_st I L) (tq_Q q0) := by
  unfold FL_law_j1373L18 at hf
  obtain ⟨p269, e269, hf⟩ := Option.bind_eq_some_iff.mp hf
  refine ty_callVI p269.1 ([.int b2, .int b1, .int b0]) ([.int b4]) rL_law_1373 l_L_133 moX12_range mvX12_range k3 rfl rfl (Nat.le_of_ble_eq_true rfl) ⟨rfl, rfl⟩ (CX12_range k3 e269) ?_
  refine tq_icmp_eq rL_law_1376 (fun c270 => ?_) (fun c270 => ?_)
  · rw [if_pos c270] at hf
    exact tq_forget _ (tq_le_s (tq_le_s (tq_le_s (tq_le_s tq_le_n)))) (FL_law_j1717L18_x hS h1 h2 hf hk)
  · rw [if_neg c270] at hf
    refine tq_iconst (0 : Int32) rL_law_1379 (by decide) ?_
    refine ty_zret (ty := .boolean) rL_law_1380 rfl rfl rfl ?_
    have hf := Option.some.inj hf
    subst hf
    exact hk

set_option maxRecDepth 100000 in
set_option maxHeartbeats 4000000 in
theorem FL_law_j1346L18_x {S : Nat × (Nat → Int32)} {d : Nat} (hS : S.1 < 100000) {I : tq_PI} {L : tq_PL} {a1 : Nat} {a2 : Nat} {a3 : Int32} {b0 : Int32} {b1 : Int32} {b2 : Int32} {b3 : Nat} (h1 : tq_sh0 a1 = 11) (h2 : tq_sh0 a2 = 12) (k3 : tq_sh0 b3 = 11) {q0 : Option Value → tq_PI → tq_PL → Prop} {out : (Int32 × tq_PI × tq_PL) ⊕ ((tq_PI × tq_PL) ⊕ (Bool × tq_PI × tq_PL))} (hf : FL_law_j1346L18 S I L a1 a2 a3 b0 b1 b2 b3 = some out) (hk : Sum.elim (fun p : Int32 × tq_PI × tq_PL => tq_X S mL_law (d + 27) (0, 0) 18 ([.retAddr 0, .ref a1, .ref a2, .int p.1]) [] (tq_st p.2.1 p.2.2) (tq_Q q0)) (Sum.elim (fun p : tq_PI × tq_PL => tq_X S mL_law (d + 27) (0, 0) 1723 ([tq_u, tq_u, tq_u, tq_u]) [] (tq_st p.1 p.2) (tq_Q q0)) (fun p : Bool × tq_PI × tq_PL => q0 (some (.int (tq_b p.1))) p.2.1 p.2.2)) out) : tq_X S mL_law (d + 27) (0, 0) 1346 ([.retAddr 0, .ref a1, .ref a2, .int a3]) ([.int b0, .int b1, .int b2, .ref b3]) (tq_st I L) (tq_Q q0) := by
  unfold FL_law_j1346L18 at hf
  obtain ⟨p264, e264, hf⟩ := Option.bind_eq_some_iff.mp hf
  refine ty_callVI p264.1 ([.int b2, .int b1, .int b0]) ([]) rL_law_1346 l_L_130 moX11_range mvX11_range k3 rfl rfl (Nat.le_of_ble_eq_true rfl) ⟨rfl, rfl⟩ (CX11_range k3 e264) ?_
  refine tq_aload_n rL_law_1349 rfl ?_
  refine tq_aloadF_n rL_law_1350 rfl ?_
  refine tq_iload_n rL_law_1351 rfl ?_
  refine tq_iconst (1 : Int32) rL_law_1352 (by decide) ?_
  refine tq_iadd rL_law_1353 ?_
  obtain ⟨g265, hf⟩ := tq_chk hf
  refine tq_sld rL_law_1354 (tq_bi rfl hS g265) ?_
  refine tq_aloadF_n rL_law_1355 rfl ?_
  refine tq_iload_n rL_law_1356 rfl ?_
  refine tq_iconst (2 : Int32) rL_law_1357 (by decide) ?_
  refine tq_iadd rL_law_1358 ?_
  obtain ⟨g266, hf⟩ := tq_chk hf
  refine tq_sld rL_law_1359 (tq_bi rfl hS g266) ?_
  refine tq_aloadF_n rL_law_1360 rfl ?_
  refine tq_iload_n rL_law_1361 rfl ?_
  refine tq_iconst (3 : Int32) rL_law_1362 (by decide) ?_
  refine tq_iadd rL_law_1363 ?_
  obtain ⟨g267, hf⟩ := tq_chk hf
  refine tq_sld rL_law_1364 (tq_bi rfl hS g267) ?_
  refine tq_if_eq rL_law_1365 (fun c268 => ?_) (fun c268 => ?_)
  · rw [if_pos c268] at hf
    refine tq_iconst (0 : Int32) rL_law_1372 (by decide) ?_
    exact tq_forget _ (tq_le_s (tq_le_s (tq_le_s (tq_le_s tq_le_n)))) (FL_law_j1373L18_x hS h1 h2 h2 hf hk)
  · rw [if_neg c268] at hf
    refine tq_iconst (1 : Int32) rL_law_1368 (by decide) ?_
    refine tq_goto rL_law_1369 ?_
    exact tq_forget _ (tq_le_s (tq_le_s (tq_le_s (tq_le_s tq_le_n)))) (FL_law_j1373L18_x hS h1 h2 h2 hf hk)

set_option maxRecDepth 100000 in
set_option maxHeartbeats 4000000 in
theorem FL_law_j1498L18_x {S : Nat × (Nat → Int32)} {d : Nat} (hS : S.1 < 100000) {I : tq_PI} {L : tq_PL} {a1 : Nat} {a2 : Nat} {a3 : Int32} {b0 : Int32} {b1 : Int32} {b2 : Nat} {b3 : Int32} (h1 : tq_sh0 a1 = 11) (h2 : tq_sh0 a2 = 12) (k2 : tq_sh0 b2 = 12) {q0 : Option Value → tq_PI → tq_PL → Prop} {out : (Int32 × tq_PI × tq_PL) ⊕ ((tq_PI × tq_PL) ⊕ (Bool × tq_PI × tq_PL))} (hf : FL_law_j1498L18 S I L a1 a2 a3 b0 b1 b2 b3 = some out) (hk : Sum.elim (fun p : Int32 × tq_PI × tq_PL => tq_X S mL_law (d + 27) (0, 0) 18 ([.retAddr 0, .ref a1, .ref a2, .int p.1]) [] (tq_st p.2.1 p.2.2) (tq_Q q0)) (Sum.elim (fun p : tq_PI × tq_PL => tq_X S mL_law (d + 27) (0, 0) 1723 ([tq_u, tq_u, tq_u, tq_u]) [] (tq_st p.1 p.2) (tq_Q q0)) (fun p : Bool × tq_PI × tq_PL => q0 (some (.int (tq_b p.1))) p.2.1 p.2.2)) out) : tq_X S mL_law (d + 27) (0, 0) 1498 ([.retAddr 0, .ref a1, .ref a2, .int a3]) ([.int b0, .int b1, .ref b2, .int b3]) (tq_st I L) (tq_Q q0) := by
  unfold FL_law_j1498L18 at hf
  obtain ⟨p297, e297, hf⟩ := Option.bind_eq_some_iff.mp hf
  refine ty_callVI p297.1 ([.int b1, .int b0]) ([.int b3]) rL_law_1498 l_L_145 moX12_crest mvX12_crest k2 rfl rfl (Nat.le_of_ble_eq_true rfl) ⟨rfl, rfl⟩ (CX12_crest k2 e297) ?_
  refine tq_icmp_eq rL_law_1501 (fun c298 => ?_) (fun c298 => ?_)
  · rw [if_pos c298] at hf
    exact tq_forget _ (tq_le_s (tq_le_s (tq_le_s (tq_le_s tq_le_n)))) (FL_law_j1717L18_x hS h1 h2 hf hk)
  · rw [if_neg c298] at hf
    refine tq_iconst (0 : Int32) rL_law_1504 (by decide) ?_
    refine ty_zret (ty := .boolean) rL_law_1505 rfl rfl rfl ?_
    have hf := Option.some.inj hf
    subst hf
    exact hk

set_option maxRecDepth 100000 in
set_option maxHeartbeats 4000000 in
theorem FL_law_j1476L18_x {S : Nat × (Nat → Int32)} {d : Nat} (hS : S.1 < 100000) {I : tq_PI} {L : tq_PL} {a1 : Nat} {a2 : Nat} {a3 : Int32} {b0 : Int32} {b1 : Int32} {b2 : Nat} (h1 : tq_sh0 a1 = 11) (h2 : tq_sh0 a2 = 12) (k2 : tq_sh0 b2 = 11) {q0 : Option Value → tq_PI → tq_PL → Prop} {out : (Int32 × tq_PI × tq_PL) ⊕ ((tq_PI × tq_PL) ⊕ (Bool × tq_PI × tq_PL))} (hf : FL_law_j1476L18 S I L a1 a2 a3 b0 b1 b2 = some out) (hk : Sum.elim (fun p : Int32 × tq_PI × tq_PL => tq_X S mL_law (d + 27) (0, 0) 18 ([.retAddr 0, .ref a1, .ref a2, .int p.1]) [] (tq_st p.2.1 p.2.2) (tq_Q q0)) (Sum.elim (fun p : tq_PI × tq_PL => tq_X S mL_law (d + 27) (0, 0) 1723 ([tq_u, tq_u, tq_u, tq_u]) [] (tq_st p.1 p.2) (tq_Q q0)) (fun p : Bool × tq_PI × tq_PL => q0 (some (.int (tq_b p.1))) p.2.1 p.2.2)) out) : tq_X S mL_law (d + 27) (0, 0) 1476 ([.retAddr 0, .ref a1, .ref a2, .int a3]) ([.int b0, .int b1, .ref b2]) (tq_st I L) (tq_Q q0) := by
  unfold FL_law_j1476L18 at hf
  obtain ⟨p293, e293, hf⟩ := Option.bind_eq_some_iff.mp hf
  refine ty_callVI p293 ([.int b1, .int b0]) ([]) rL_law_1476 l_L_142 moX11_crest mvX11_crest k2 rfl rfl (Nat.le_of_ble_eq_true rfl) ⟨rfl, rfl⟩ (CX11_crest k2 e293) ?_
  refine tq_aload_n rL_law_1479 rfl ?_
  refine tq_aloadF_n rL_law_1480 rfl ?_
  refine tq_iload_n rL_law_1481 rfl ?_
  refine tq_iconst (1 : Int32) rL_law_1482 (by decide) ?_
  refine tq_iadd rL_law_1483 ?_
  obtain ⟨g294, hf⟩ := tq_chk hf
  refine tq_sld rL_law_1484 (tq_bi rfl hS g294) ?_
  refine tq_aloadF_n rL_law_1485 rfl ?_
  refine tq_iload_n rL_law_1486 rfl ?_
  refine tq_iconst (2 : Int32) rL_law_1487 (by decide) ?_
  refine tq_iadd rL_law_1488 ?_
  obtain ⟨g295, hf⟩ := tq_chk hf
  refine tq_sld rL_law_1489 (tq_bi rfl hS g295) ?_
  refine tq_if_eq rL_law_1490 (fun c296 => ?_) (fun c296 => ?_)
  · rw [if_pos c296] at hf
    refine tq_iconst (0 : Int32) rL_law_1497 (by decide) ?_
    exact tq_forget _ (tq_le_s (tq_le_s (tq_le_s (tq_le_s tq_le_n)))) (FL_law_j1498L18_x hS h1 h2 h2 hf hk)
  · rw [if_neg c296] at hf
    refine tq_iconst (1 : Int32) rL_law_1493 (by decide) ?_
    refine tq_goto rL_law_1494 ?_
    exact tq_forget _ (tq_le_s (tq_le_s (tq_le_s (tq_le_s tq_le_n)))) (FL_law_j1498L18_x hS h1 h2 h2 hf hk)

set_option maxRecDepth 100000 in
set_option maxHeartbeats 4000000 in
theorem FL_law_s18_x {S : Nat × (Nat → Int32)} {d : Nat} (hS : S.1 < 100000) {I : tq_PI} {L : tq_PL} {a1 : Nat} {a2 : Nat} {a3 : Int32} (h1 : tq_sh0 a1 = 11) (h2 : tq_sh0 a2 = 12) {q0 : Option Value → tq_PI → tq_PL → Prop} {out : (Int32 × tq_PI × tq_PL) ⊕ ((tq_PI × tq_PL) ⊕ (Bool × tq_PI × tq_PL))} (hf : FL_law_s18 S I L a1 a2 a3 = some out) (hk : Sum.elim (fun p : Int32 × tq_PI × tq_PL => tq_X S mL_law (d + 27) (0, 0) 18 ([.retAddr 0, .ref a1, .ref a2, .int p.1]) [] (tq_st p.2.1 p.2.2) (tq_Q q0)) (Sum.elim (fun p : tq_PI × tq_PL => tq_X S mL_law (d + 27) (0, 0) 1723 ([tq_u, tq_u, tq_u, tq_u]) [] (tq_st p.1 p.2) (tq_Q q0)) (fun p : Bool × tq_PI × tq_PL => q0 (some (.int (tq_b p.1))) p.2.1 p.2.2)) out) : tq_X S mL_law (d + 27) (0, 0) 18 ([.retAddr 0, .ref a1, .ref a2, .int a3]) [] (tq_st I L) (tq_Q q0) := by
  unfold FL_law_s18 at hf
  refine tq_iload_n rL_law_18 rfl ?_
  refine tq_aloadF_n rL_law_19 rfl ?_
  refine tq_slen rL_law_20 ?_
  refine tq_bipush (6 : Int32) rL_law_21 (by decide) ?_
  refine tq_isub rL_law_23 ?_
  refine tq_icmp_gt rL_law_24 (fun c1 => ?_) (fun c1 => ?_)
  · rw [if_pos c1] at hf
    have hf := Option.some.inj hf
    subst hf
    exact tq_forget _ (tq_le_u (tq_le_u (tq_le_u (tq_le_u tq_le_n)))) hk
  · rw [if_neg c1] at hf
    refine tq_aloadF_n rL_law_27 rfl ?_
    refine tq_iload_n rL_law_28 rfl ?_
    obtain ⟨g2, hf⟩ := tq_chk hf
    refine tq_sld rL_law_29 (tq_bi rfl hS g2) ?_
    refine tq_bipush (63 : Int32) rL_law_30 (by decide) ?_
    refine tq_iand rL_law_32 ?_
    by_cases c3 : ((S.2 a3.toNatClampNeg) &&& (63 : Int32)) = 0
    · rw [if_pos c3] at hf
      refine tq_swIn (tgt := 200) 167 rL_law_33 (by rw [c3]; decide) (by rw [c3]; decide) (by rw [c3]; rfl) (by decide) ?_
      refine tq_aload_n rL_law_200 rfl ?_
      refine tq_aloadF_n rL_law_201 rfl ?_
      refine tq_iload_n rL_law_202 rfl ?_
      refine tq_iconst (1 : Int32) rL_law_203 (by decide) ?_
      refine tq_iadd rL_law_204 ?_
      obtain ⟨g4, hf⟩ := tq_chk hf
      refine tq_sld rL_law_205 (tq_bi rfl hS g4) ?_
      refine tq_aloadF_n rL_law_206 rfl ?_
      refine tq_iload_n rL_law_207 rfl ?_
      refine tq_iconst (2 : Int32) rL_law_208 (by decide) ?_
      refine tq_iadd rL_law_209 ?_
      obtain ⟨g5, hf⟩ := tq_chk hf
      refine tq_sld rL_law_210 (tq_bi rfl hS g5) ?_
      refine tq_aloadF_n rL_law_211 rfl ?_
      refine tq_iload_n rL_law_212 rfl ?_
      refine tq_iconst (3 : Int32) rL_law_213 (by decide) ?_
      refine tq_iadd rL_law_214 ?_
      obtain ⟨g6, hf⟩ := tq_chk hf
      refine tq_sld rL_law_215 (tq_bi rfl hS g6) ?_
      refine tq_aloadF_n rL_law_216 rfl ?_
      refine tq_iload_n rL_law_217 rfl ?_
      refine tq_iconst (4 : Int32) rL_law_218 (by decide) ?_
      refine tq_iadd rL_law_219 ?_
      obtain ⟨g7, hf⟩ := tq_chk hf
      refine tq_sld rL_law_220 (tq_bi rfl hS g7) ?_
      refine tq_aloadF_n rL_law_221 rfl ?_
      refine tq_iload_n rL_law_222 rfl ?_
      refine tq_iconst (5 : Int32) rL_law_223 (by decide) ?_
      refine tq_iadd rL_law_224 ?_
      obtain ⟨g8, hf⟩ := tq_chk hf
      refine tq_sld rL_law_225 (tq_bi rfl hS g8) ?_
      obtain ⟨p9, e9, hf⟩ := Option.bind_eq_some_iff.mp hf
      refine ty_callVI p9.1 ([.int (S.2 ((a3 + (1 : Int32))).toNatClampNeg), .int (S.2 ((a3 + (2 : Int32))).toNatClampNeg), .int (S.2 ((a3 + (3 : Int32))).toNatClampNeg), .int (S.2 ((a3 + (4 : Int32))).toNatClampNeg), .int (S.2 ((a3 + (5 : Int32))).toNatClampNeg)]) ([]) rL_law_226 l_L_13 moX11_feed mvX11_feed h1 rfl rfl (Nat.le_of_ble_eq_true rfl) ⟨rfl, rfl⟩ (CX11_feed h1 e9) ?_
      refine tq_aload_n rL_law_229 rfl ?_
      refine tq_aloadF_n rL_law_230 rfl ?_
      refine tq_iload_n rL_law_231 rfl ?_
      refine tq_iconst (1 : Int32) rL_law_232 (by decide) ?_
      refine tq_iadd rL_law_233 ?_
      obtain ⟨g10, hf⟩ := tq_chk hf
      refine tq_sld rL_law_234 (tq_bi rfl hS g10) ?_
      refine tq_aloadF_n rL_law_235 rfl ?_
      refine tq_iload_n rL_law_236 rfl ?_
      refine tq_iconst (2 : Int32) rL_law_237 (by decide) ?_
      refine tq_iadd rL_law_238 ?_
      obtain ⟨g11, hf⟩ := tq_chk hf
      refine tq_sld rL_law_239 (tq_bi rfl hS g11) ?_
      refine tq_aloadF_n rL_law_240 rfl ?_
      refine tq_iload_n rL_law_241 rfl ?_
      refine tq_iconst (3 : Int32) rL_law_242 (by decide) ?_
      refine tq_iadd rL_law_243 ?_
      obtain ⟨g12, hf⟩ := tq_chk hf
      refine tq_sld rL_law_244 (tq_bi rfl hS g12) ?_
      refine tq_aloadF_n rL_law_245 rfl ?_
      refine tq_iload_n rL_law_246 rfl ?_
      refine tq_iconst (4 : Int32) rL_law_247 (by decide) ?_
      refine tq_iadd rL_law_248 ?_
      obtain ⟨g13, hf⟩ := tq_chk hf
      refine tq_sld rL_law_249 (tq_bi rfl hS g13) ?_
      refine tq_aloadF_n rL_law_250 rfl ?_
      refine tq_iload_n rL_law_251 rfl ?_
      refine tq_iconst (5 : Int32) rL_law_252 (by decide) ?_
      refine tq_iadd rL_law_253 ?_
      obtain ⟨g14, hf⟩ := tq_chk hf
      refine tq_sld rL_law_254 (tq_bi rfl hS g14) ?_
      obtain ⟨p15, e15, hf⟩ := Option.bind_eq_some_iff.mp hf
      refine ty_callVI p15.1 ([.int (S.2 ((a3 + (1 : Int32))).toNatClampNeg), .int (S.2 ((a3 + (2 : Int32))).toNatClampNeg), .int (S.2 ((a3 + (3 : Int32))).toNatClampNeg), .int (S.2 ((a3 + (4 : Int32))).toNatClampNeg), .int (S.2 ((a3 + (5 : Int32))).toNatClampNeg)]) ([.int p9.1]) rL_law_255 l_L_17 moX12_feed mvX12_feed h2 rfl rfl (Nat.le_of_ble_eq_true rfl) ⟨rfl, rfl⟩ (CX12_feed h2 e15) ?_
      refine tq_icmp_eq rL_law_258 (fun c16 => ?_) (fun c16 => ?_)
      · rw [if_pos c16] at hf
        exact tq_forget _ (tq_le_s (tq_le_s (tq_le_s (tq_le_s tq_le_n)))) (FL_law_j1717L18_x hS h1 h2 hf hk)
      · rw [if_neg c16] at hf
        refine tq_iconst (0 : Int32) rL_law_261 (by decide) ?_
        refine ty_zret (ty := .boolean) rL_law_262 rfl rfl rfl ?_
        have hf := Option.some.inj hf
        subst hf
        exact hk
    · rw [if_neg c3] at hf
      by_cases c17 : ((S.2 a3.toNatClampNeg) &&& (63 : Int32)) = 1
      · rw [if_pos c17] at hf
        refine tq_swIn (tgt := 263) 230 rL_law_33 (by rw [c17]; decide) (by rw [c17]; decide) (by rw [c17]; rfl) (by decide) ?_
        refine tq_aload_n rL_law_263 rfl ?_
        refine tq_aloadF_n rL_law_264 rfl ?_
        refine tq_iload_n rL_law_265 rfl ?_
        refine tq_iconst (1 : Int32) rL_law_266 (by decide) ?_
        refine tq_iadd rL_law_267 ?_
        obtain ⟨g18, hf⟩ := tq_chk hf
        refine tq_sld rL_law_268 (tq_bi rfl hS g18) ?_
        obtain ⟨p19, e19, hf⟩ := tq_let_elim hf
        refine ty_callVI p19.1 ([.int (S.2 ((a3 + (1 : Int32))).toNatClampNeg)]) ([]) rL_law_269 l_L_18 moX11_end mvX11_end h1 rfl rfl (Nat.le_of_ble_eq_true rfl) ⟨rfl, rfl⟩ (CX11_end h1 e19) ?_
        refine tq_aload_n rL_law_272 rfl ?_
        refine tq_aloadF_n rL_law_273 rfl ?_
        refine tq_iload_n rL_law_274 rfl ?_
        refine tq_iconst (1 : Int32) rL_law_275 (by decide) ?_
        refine tq_iadd rL_law_276 ?_
        obtain ⟨g20, hf⟩ := tq_chk hf
        refine tq_sld rL_law_277 (tq_bi rfl hS g20) ?_
        obtain ⟨p21, e21, hf⟩ := Option.bind_eq_some_iff.mp hf
        refine ty_callVI p21.1 ([.int (S.2 ((a3 + (1 : Int32))).toNatClampNeg)]) ([.int p19.1]) rL_law_278 l_L_22 moX12_end mvX12_end h2 rfl rfl (Nat.le_of_ble_eq_true rfl) ⟨rfl, rfl⟩ (CX12_end h2 e21) ?_
        refine tq_icmp_eq rL_law_281 (fun c22 => ?_) (fun c22 => ?_)
        · rw [if_pos c22] at hf
          exact tq_forget _ (tq_le_s (tq_le_s (tq_le_s (tq_le_s tq_le_n)))) (FL_law_j1717L18_x hS h1 h2 hf hk)
        · rw [if_neg c22] at hf
          refine tq_iconst (0 : Int32) rL_law_284 (by decide) ?_
          refine ty_zret (ty := .boolean) rL_law_285 rfl rfl rfl ?_
          have hf := Option.some.inj hf
          subst hf
          exact hk
      · rw [if_neg c17] at hf
        by_cases c23 : ((S.2 a3.toNatClampNeg) &&& (63 : Int32)) = 2
        · rw [if_pos c23] at hf
          refine tq_swIn (tgt := 286) 253 rL_law_33 (by rw [c23]; decide) (by rw [c23]; decide) (by rw [c23]; rfl) (by decide) ?_
          refine tq_aload_n rL_law_286 rfl ?_
          refine tq_aloadF_n rL_law_287 rfl ?_
          refine tq_iload_n rL_law_288 rfl ?_
          refine tq_iconst (1 : Int32) rL_law_289 (by decide) ?_
          refine tq_iadd rL_law_290 ?_
          obtain ⟨g24, hf⟩ := tq_chk hf
          refine tq_sld rL_law_291 (tq_bi rfl hS g24) ?_
          refine tq_aloadF_n rL_law_292 rfl ?_
          refine tq_iload_n rL_law_293 rfl ?_
          refine tq_iconst (2 : Int32) rL_law_294 (by decide) ?_
          refine tq_iadd rL_law_295 ?_
          obtain ⟨g25, hf⟩ := tq_chk hf
          refine tq_sld rL_law_296 (tq_bi rfl hS g25) ?_
          obtain ⟨p26, e26, hf⟩ := Option.bind_eq_some_iff.mp hf
          refine ty_callVI p26.1 ([.int (S.2 ((a3 + (1 : Int32))).toNatClampNeg), .int (S.2 ((a3 + (2 : Int32))).toNatClampNeg)]) ([]) rL_law_297 l_L_23 moX11_text mvX11_text h1 rfl rfl (Nat.le_of_ble_eq_true rfl) ⟨rfl, rfl⟩ (CX11_text h1 e26) ?_
          refine tq_aload_n rL_law_300 rfl ?_
          refine tq_aloadF_n rL_law_301 rfl ?_
          refine tq_iload_n rL_law_302 rfl ?_
          refine tq_iconst (1 : Int32) rL_law_303 (by decide) ?_
          refine tq_iadd rL_law_304 ?_
          obtain ⟨g27, hf⟩ := tq_chk hf
          refine tq_sld rL_law_305 (tq_bi rfl hS g27) ?_
          refine tq_aloadF_n rL_law_306 rfl ?_
          refine tq_iload_n rL_law_307 rfl ?_
          refine tq_iconst (2 : Int32) rL_law_308 (by decide) ?_
          refine tq_iadd rL_law_309 ?_
          obtain ⟨g28, hf⟩ := tq_chk hf
          refine tq_sld rL_law_310 (tq_bi rfl hS g28) ?_
          obtain ⟨p29, e29, hf⟩ := Option.bind_eq_some_iff.mp hf
          refine ty_callVI p29.1 ([.int (S.2 ((a3 + (1 : Int32))).toNatClampNeg), .int (S.2 ((a3 + (2 : Int32))).toNatClampNeg)]) ([.int p26.1]) rL_law_311 l_L_27 moX12_text mvX12_text h2 rfl rfl (Nat.le_of_ble_eq_true rfl) ⟨rfl, rfl⟩ (CX12_text h2 e29) ?_
          refine tq_icmp_eq rL_law_314 (fun c30 => ?_) (fun c30 => ?_)
          · rw [if_pos c30] at hf
            exact tq_forget _ (tq_le_s (tq_le_s (tq_le_s (tq_le_s tq_le_n)))) (FL_law_j1717L18_x hS h1 h2 hf hk)
          · rw [if_neg c30] at hf
            refine tq_iconst (0 : Int32) rL_law_317 (by decide) ?_
            refine ty_zret (ty := .boolean) rL_law_318 rfl rfl rfl ?_
            have hf := Option.some.inj hf
            subst hf
            exact hk
        · rw [if_neg c23] at hf
          by_cases c31 : ((S.2 a3.toNatClampNeg) &&& (63 : Int32)) = 3
          · rw [if_pos c31] at hf
            refine tq_swIn (tgt := 319) 286 rL_law_33 (by rw [c31]; decide) (by rw [c31]; decide) (by rw [c31]; rfl) (by decide) ?_
            refine tq_aload_n rL_law_319 rfl ?_
            refine tq_aloadF_n rL_law_320 rfl ?_
            refine tq_iload_n rL_law_321 rfl ?_
            refine tq_iconst (1 : Int32) rL_law_322 (by decide) ?_
            refine tq_iadd rL_law_323 ?_
            obtain ⟨g32, hf⟩ := tq_chk hf
            refine tq_sld rL_law_324 (tq_bi rfl hS g32) ?_
            obtain ⟨p33, e33, hf⟩ := tq_let_elim hf
            refine ty_callVI p33 ([.int (S.2 ((a3 + (1 : Int32))).toNatClampNeg)]) ([]) rL_law_325 l_L_28 moX11_fault mvX11_fault h1 rfl rfl (Nat.le_of_ble_eq_true rfl) ⟨rfl, rfl⟩ (CX11_fault h1 e33) ?_
            refine tq_aload_n rL_law_328 rfl ?_
            refine tq_aloadF_n rL_law_329 rfl ?_
            refine tq_iload_n rL_law_330 rfl ?_
            refine tq_iconst (1 : Int32) rL_law_331 (by decide) ?_
            refine tq_iadd rL_law_332 ?_
            obtain ⟨g34, hf⟩ := tq_chk hf
            refine tq_sld rL_law_333 (tq_bi rfl hS g34) ?_
            obtain ⟨p35, e35, hf⟩ := Option.bind_eq_some_iff.mp hf
            refine ty_callVI p35 ([.int (S.2 ((a3 + (1 : Int32))).toNatClampNeg)]) ([.int p33]) rL_law_334 l_L_31 moX12_fault mvX12_fault h2 rfl rfl (Nat.le_of_ble_eq_true rfl) ⟨rfl, rfl⟩ (CX12_fault h2 e35) ?_
            refine tq_icmp_eq rL_law_337 (fun c36 => ?_) (fun c36 => ?_)
            · rw [if_pos c36] at hf
              exact tq_forget _ (tq_le_s (tq_le_s (tq_le_s (tq_le_s tq_le_n)))) (FL_law_j1717L18_x hS h1 h2 hf hk)
            · rw [if_neg c36] at hf
              refine tq_iconst (0 : Int32) rL_law_340 (by decide) ?_
              refine ty_zret (ty := .boolean) rL_law_341 rfl rfl rfl ?_
              have hf := Option.some.inj hf
              subst hf
              exact hk
          · rw [if_neg c31] at hf
            by_cases c37 : ((S.2 a3.toNatClampNeg) &&& (63 : Int32)) = 4
            · rw [if_pos c37] at hf
              refine tq_swIn (tgt := 342) 309 rL_law_33 (by rw [c37]; decide) (by rw [c37]; decide) (by rw [c37]; rfl) (by decide) ?_
              refine tq_aload_n rL_law_342 rfl ?_
              refine tq_aloadF_n rL_law_343 rfl ?_
              refine tq_iload_n rL_law_344 rfl ?_
              refine tq_iconst (1 : Int32) rL_law_345 (by decide) ?_
              refine tq_iadd rL_law_346 ?_
              obtain ⟨g38, hf⟩ := tq_chk hf
              refine tq_sld rL_law_347 (tq_bi rfl hS g38) ?_
              refine tq_aloadF_n rL_law_348 rfl ?_
              refine tq_iload_n rL_law_349 rfl ?_
              refine tq_iconst (2 : Int32) rL_law_350 (by decide) ?_
              refine tq_iadd rL_law_351 ?_
              obtain ⟨g39, hf⟩ := tq_chk hf
              refine tq_sld rL_law_352 (tq_bi rfl hS g39) ?_
              obtain ⟨p40, e40, hf⟩ := Option.bind_eq_some_iff.mp hf
              refine ty_callVI p40 ([.int (S.2 ((a3 + (1 : Int32))).toNatClampNeg), .int (S.2 ((a3 + (2 : Int32))).toNatClampNeg)]) ([]) rL_law_353 l_L_32 moX11_hill mvX11_hill h1 rfl rfl (Nat.le_of_ble_eq_true rfl) ⟨rfl, rfl⟩ (CX11_hill h1 e40) ?_
              refine tq_aload_n rL_law_356 rfl ?_
              refine tq_aloadF_n rL_law_357 rfl ?_
              refine tq_iload_n rL_law_358 rfl ?_
              refine tq_iconst (1 : Int32) rL_law_359 (by decide) ?_
              refine tq_iadd rL_law_360 ?_
              obtain ⟨g41, hf⟩ := tq_chk hf
              refine tq_sld rL_law_361 (tq_bi rfl hS g41) ?_
              refine tq_aloadF_n rL_law_362 rfl ?_
              refine tq_iload_n rL_law_363 rfl ?_
              refine tq_iconst (2 : Int32) rL_law_364 (by decide) ?_
              refine tq_iadd rL_law_365 ?_
              obtain ⟨g42, hf⟩ := tq_chk hf
              refine tq_sld rL_law_366 (tq_bi rfl hS g42) ?_
              obtain ⟨p43, e43, hf⟩ := Option.bind_eq_some_iff.mp hf
              refine ty_callVI p43.1 ([.int (S.2 ((a3 + (1 : Int32))).toNatClampNeg), .int (S.2 ((a3 + (2 : Int32))).toNatClampNeg)]) ([.int p40]) rL_law_367 l_L_35 moX12_hill mvX12_hill h2 rfl rfl (Nat.le_of_ble_eq_true rfl) ⟨rfl, rfl⟩ (CX12_hill h2 e43) ?_
              refine tq_icmp_eq rL_law_370 (fun c44 => ?_) (fun c44 => ?_)
              · rw [if_pos c44] at hf
                exact tq_forget _ (tq_le_s (tq_le_s (tq_le_s (tq_le_s tq_le_n)))) (FL_law_j1717L18_x hS h1 h2 hf hk)
              · rw [if_neg c44] at hf
                refine tq_iconst (0 : Int32) rL_law_373 (by decide) ?_
                refine ty_zret (ty := .boolean) rL_law_374 rfl rfl rfl ?_
                have hf := Option.some.inj hf
                subst hf
                exact hk
            · rw [if_neg c37] at hf
              by_cases c45 : ((S.2 a3.toNatClampNeg) &&& (63 : Int32)) = 5
              · rw [if_pos c45] at hf
                refine tq_swIn (tgt := 375) 342 rL_law_33 (by rw [c45]; decide) (by rw [c45]; decide) (by rw [c45]; rfl) (by decide) ?_
                refine tq_aload_n rL_law_375 rfl ?_
                refine tq_aloadF_n rL_law_376 rfl ?_
                refine tq_iload_n rL_law_377 rfl ?_
                refine tq_iconst (1 : Int32) rL_law_378 (by decide) ?_
                refine tq_iadd rL_law_379 ?_
                obtain ⟨g46, hf⟩ := tq_chk hf
                refine tq_sld rL_law_380 (tq_bi rfl hS g46) ?_
                refine tq_aloadF_n rL_law_381 rfl ?_
                refine tq_iload_n rL_law_382 rfl ?_
                refine tq_iconst (2 : Int32) rL_law_383 (by decide) ?_
                refine tq_iadd rL_law_384 ?_
                obtain ⟨g47, hf⟩ := tq_chk hf
                refine tq_sld rL_law_385 (tq_bi rfl hS g47) ?_
                refine tq_aloadF_n rL_law_386 rfl ?_
                refine tq_iload_n rL_law_387 rfl ?_
                refine tq_iconst (3 : Int32) rL_law_388 (by decide) ?_
                refine tq_iadd rL_law_389 ?_
                obtain ⟨g48, hf⟩ := tq_chk hf
                refine tq_sld rL_law_390 (tq_bi rfl hS g48) ?_
                obtain ⟨p49, e49, hf⟩ := Option.bind_eq_some_iff.mp hf
                refine ty_callVI p49 ([.int (S.2 ((a3 + (1 : Int32))).toNatClampNeg), .int (S.2 ((a3 + (2 : Int32))).toNatClampNeg), .int (S.2 ((a3 + (3 : Int32))).toNatClampNeg)]) ([]) rL_law_391 l_L_36 moX11_deed mvX11_deed h1 rfl rfl (Nat.le_of_ble_eq_true rfl) ⟨rfl, rfl⟩ (CX11_deed h1 e49) ?_
                refine tq_aload_n rL_law_394 rfl ?_
                refine tq_aloadF_n rL_law_395 rfl ?_
                refine tq_iload_n rL_law_396 rfl ?_
                refine tq_iconst (1 : Int32) rL_law_397 (by decide) ?_
                refine tq_iadd rL_law_398 ?_
                obtain ⟨g50, hf⟩ := tq_chk hf
                refine tq_sld rL_law_399 (tq_bi rfl hS g50) ?_
                refine tq_aloadF_n rL_law_400 rfl ?_
                refine tq_iload_n rL_law_401 rfl ?_
                refine tq_iconst (2 : Int32) rL_law_402 (by decide) ?_
                refine tq_iadd rL_law_403 ?_
                obtain ⟨g51, hf⟩ := tq_chk hf
                refine tq_sld rL_law_404 (tq_bi rfl hS g51) ?_
                refine tq_aloadF_n rL_law_405 rfl ?_
                refine tq_iload_n rL_law_406 rfl ?_
                refine tq_iconst (3 : Int32) rL_law_407 (by decide) ?_
                refine tq_iadd rL_law_408 ?_
                obtain ⟨g52, hf⟩ := tq_chk hf
                refine tq_sld rL_law_409 (tq_bi rfl hS g52) ?_
                obtain ⟨p53, e53, hf⟩ := Option.bind_eq_some_iff.mp hf
                refine ty_callVI p53.1 ([.int (S.2 ((a3 + (1 : Int32))).toNatClampNeg), .int (S.2 ((a3 + (2 : Int32))).toNatClampNeg), .int (S.2 ((a3 + (3 : Int32))).toNatClampNeg)]) ([.int p49]) rL_law_410 l_L_40 moX12_deed mvX12_deed h2 rfl rfl (Nat.le_of_ble_eq_true rfl) ⟨rfl, rfl⟩ (CX12_deed h2 e53) ?_
                refine tq_icmp_eq rL_law_413 (fun c54 => ?_) (fun c54 => ?_)
                · rw [if_pos c54] at hf
                  exact tq_forget _ (tq_le_s (tq_le_s (tq_le_s (tq_le_s tq_le_n)))) (FL_law_j1717L18_x hS h1 h2 hf hk)
                · rw [if_neg c54] at hf
                  refine tq_iconst (0 : Int32) rL_law_416 (by decide) ?_
                  refine ty_zret (ty := .boolean) rL_law_417 rfl rfl rfl ?_
                  have hf := Option.some.inj hf
                  subst hf
                  exact hk
              · rw [if_neg c45] at hf
                by_cases c55 : ((S.2 a3.toNatClampNeg) &&& (63 : Int32)) = 6
                · rw [if_pos c55] at hf
                  refine tq_swIn (tgt := 418) 385 rL_law_33 (by rw [c55]; decide) (by rw [c55]; decide) (by rw [c55]; rfl) (by decide) ?_
                  refine tq_aload_n rL_law_418 rfl ?_
                  refine tq_aloadF_n rL_law_419 rfl ?_
                  refine tq_iload_n rL_law_420 rfl ?_
                  refine tq_iconst (1 : Int32) rL_law_421 (by decide) ?_
                  refine tq_iadd rL_law_422 ?_
                  obtain ⟨g56, hf⟩ := tq_chk hf
                  refine tq_sld rL_law_423 (tq_bi rfl hS g56) ?_
                  refine tq_aloadF_n rL_law_424 rfl ?_
                  refine tq_iload_n rL_law_425 rfl ?_
                  refine tq_iconst (2 : Int32) rL_law_426 (by decide) ?_
                  refine tq_iadd rL_law_427 ?_
                  obtain ⟨g57, hf⟩ := tq_chk hf
                  refine tq_sld rL_law_428 (tq_bi rfl hS g57) ?_
                  obtain ⟨p58, e58, hf⟩ := Option.bind_eq_some_iff.mp hf
                  refine ty_callVI p58.1 ([.int (S.2 ((a3 + (1 : Int32))).toNatClampNeg), .int (S.2 ((a3 + (2 : Int32))).toNatClampNeg)]) ([]) rL_law_429 l_L_41 moX11_stop mvX11_stop h1 rfl rfl (Nat.le_of_ble_eq_true rfl) ⟨rfl, rfl⟩ (CX11_stop h1 e58) ?_
                  refine tq_aload_n rL_law_432 rfl ?_
                  refine tq_aloadF_n rL_law_433 rfl ?_
                  refine tq_iload_n rL_law_434 rfl ?_
                  refine tq_iconst (1 : Int32) rL_law_435 (by decide) ?_
                  refine tq_iadd rL_law_436 ?_
                  obtain ⟨g59, hf⟩ := tq_chk hf
                  refine tq_sld rL_law_437 (tq_bi rfl hS g59) ?_
                  refine tq_aloadF_n rL_law_438 rfl ?_
                  refine tq_iload_n rL_law_439 rfl ?_
                  refine tq_iconst (2 : Int32) rL_law_440 (by decide) ?_
                  refine tq_iadd rL_law_441 ?_
                  obtain ⟨g60, hf⟩ := tq_chk hf
                  refine tq_sld rL_law_442 (tq_bi rfl hS g60) ?_
                  obtain ⟨p61, e61, hf⟩ := Option.bind_eq_some_iff.mp hf
                  refine ty_callVI p61.1 ([.int (S.2 ((a3 + (1 : Int32))).toNatClampNeg), .int (S.2 ((a3 + (2 : Int32))).toNatClampNeg)]) ([.int p58.1]) rL_law_443 l_L_44 moX12_stop mvX12_stop h2 rfl rfl (Nat.le_of_ble_eq_true rfl) ⟨rfl, rfl⟩ (CX12_stop h2 e61) ?_
                  refine tq_icmp_eq rL_law_446 (fun c62 => ?_) (fun c62 => ?_)
                  · rw [if_pos c62] at hf
                    exact tq_forget _ (tq_le_s (tq_le_s (tq_le_s (tq_le_s tq_le_n)))) (FL_law_j1717L18_x hS h1 h2 hf hk)
                  · rw [if_neg c62] at hf
                    refine tq_iconst (0 : Int32) rL_law_449 (by decide) ?_
                    refine ty_zret (ty := .boolean) rL_law_450 rfl rfl rfl ?_
                    have hf := Option.some.inj hf
                    subst hf
                    exact hk
                · rw [if_neg c55] at hf
                  by_cases c63 : ((S.2 a3.toNatClampNeg) &&& (63 : Int32)) = 7
                  · rw [if_pos c63] at hf
                    refine tq_swIn (tgt := 451) 418 rL_law_33 (by rw [c63]; decide) (by rw [c63]; decide) (by rw [c63]; rfl) (by decide) ?_
                    refine tq_aload_n rL_law_451 rfl ?_
                    refine tq_aloadF_n rL_law_452 rfl ?_
                    refine tq_iload_n rL_law_453 rfl ?_
                    refine tq_iconst (1 : Int32) rL_law_454 (by decide) ?_
                    refine tq_iadd rL_law_455 ?_
                    obtain ⟨g64, hf⟩ := tq_chk hf
                    refine tq_sld rL_law_456 (tq_bi rfl hS g64) ?_
                    refine tq_aloadF_n rL_law_457 rfl ?_
                    refine tq_iload_n rL_law_458 rfl ?_
                    refine tq_iconst (2 : Int32) rL_law_459 (by decide) ?_
                    refine tq_iadd rL_law_460 ?_
                    obtain ⟨g65, hf⟩ := tq_chk hf
                    refine tq_sld rL_law_461 (tq_bi rfl hS g65) ?_
                    refine tq_aloadF_n rL_law_462 rfl ?_
                    refine tq_iload_n rL_law_463 rfl ?_
                    refine tq_iconst (3 : Int32) rL_law_464 (by decide) ?_
                    refine tq_iadd rL_law_465 ?_
                    obtain ⟨g66, hf⟩ := tq_chk hf
                    refine tq_sld rL_law_466 (tq_bi rfl hS g66) ?_
                    refine tq_aloadF_n rL_law_467 rfl ?_
                    refine tq_iload_n rL_law_468 rfl ?_
                    refine tq_iconst (4 : Int32) rL_law_469 (by decide) ?_
                    refine tq_iadd rL_law_470 ?_
                    obtain ⟨g67, hf⟩ := tq_chk hf
                    refine tq_sld rL_law_471 (tq_bi rfl hS g67) ?_
                    obtain ⟨p68, e68, hf⟩ := Option.bind_eq_some_iff.mp hf
                    refine ty_callVI p68.1 ([.int (S.2 ((a3 + (1 : Int32))).toNatClampNeg), .int (S.2 ((a3 + (2 : Int32))).toNatClampNeg), .int (S.2 ((a3 + (3 : Int32))).toNatClampNeg), .int (S.2 ((a3 + (4 : Int32))).toNatClampNeg)]) ([]) rL_law_472 l_L_45 moX11_state mvX11_state h1 rfl rfl (Nat.le_of_ble_eq_true rfl) ⟨rfl, rfl⟩ (CX11_state h1 e68) ?_
                    refine tq_aload_n rL_law_475 rfl ?_
                    refine tq_aloadF_n rL_law_476 rfl ?_
                    refine tq_iload_n rL_law_477 rfl ?_
                    refine tq_iconst (1 : Int32) rL_law_478 (by decide) ?_
                    refine tq_iadd rL_law_479 ?_
                    obtain ⟨g69, hf⟩ := tq_chk hf
                    refine tq_sld rL_law_480 (tq_bi rfl hS g69) ?_
                    refine tq_aloadF_n rL_law_481 rfl ?_
                    refine tq_iload_n rL_law_482 rfl ?_
                    refine tq_iconst (2 : Int32) rL_law_483 (by decide) ?_
                    refine tq_iadd rL_law_484 ?_
                    obtain ⟨g70, hf⟩ := tq_chk hf
                    refine tq_sld rL_law_485 (tq_bi rfl hS g70) ?_
                    refine tq_aloadF_n rL_law_486 rfl ?_
                    refine tq_iload_n rL_law_487 rfl ?_
                    refine tq_iconst (3 : Int32) rL_law_488 (by decide) ?_
                    refine tq_iadd rL_law_489 ?_
                    obtain ⟨g71, hf⟩ := tq_chk hf
                    refine tq_sld rL_law_490 (tq_bi rfl hS g71) ?_
                    refine tq_aloadF_n rL_law_491 rfl ?_
                    refine tq_iload_n rL_law_492 rfl ?_
                    refine tq_iconst (4 : Int32) rL_law_493 (by decide) ?_
                    refine tq_iadd rL_law_494 ?_
                    obtain ⟨g72, hf⟩ := tq_chk hf
                    refine tq_sld rL_law_495 (tq_bi rfl hS g72) ?_
                    obtain ⟨p73, e73, hf⟩ := Option.bind_eq_some_iff.mp hf
                    refine ty_callVI p73.1 ([.int (S.2 ((a3 + (1 : Int32))).toNatClampNeg), .int (S.2 ((a3 + (2 : Int32))).toNatClampNeg), .int (S.2 ((a3 + (3 : Int32))).toNatClampNeg), .int (S.2 ((a3 + (4 : Int32))).toNatClampNeg)]) ([.int p68.1]) rL_law_496 l_L_49 moX12_state mvX12_state h2 rfl rfl (Nat.le_of_ble_eq_true rfl) ⟨rfl, rfl⟩ (CX12_state h2 e73) ?_
                    refine tq_icmp_eq rL_law_499 (fun c74 => ?_) (fun c74 => ?_)
                    · rw [if_pos c74] at hf
                      exact tq_forget _ (tq_le_s (tq_le_s (tq_le_s (tq_le_s tq_le_n)))) (FL_law_j1717L18_x hS h1 h2 hf hk)
                    · rw [if_neg c74] at hf
                      refine tq_iconst (0 : Int32) rL_law_502 (by decide) ?_
                      refine ty_zret (ty := .boolean) rL_law_503 rfl rfl rfl ?_
                      have hf := Option.some.inj hf
                      subst hf
                      exact hk
                  · rw [if_neg c63] at hf
                    by_cases c75 : ((S.2 a3.toNatClampNeg) &&& (63 : Int32)) = 8
                    · rw [if_pos c75] at hf
                      refine tq_swIn (tgt := 504) 471 rL_law_33 (by rw [c75]; decide) (by rw [c75]; decide) (by rw [c75]; rfl) (by decide) ?_
                      refine tq_aload_n rL_law_504 rfl ?_
                      refine tq_aloadF_n rL_law_505 rfl ?_
                      refine tq_iload_n rL_law_506 rfl ?_
                      refine tq_iconst (1 : Int32) rL_law_507 (by decide) ?_
                      refine tq_iadd rL_law_508 ?_
                      obtain ⟨g76, hf⟩ := tq_chk hf
                      refine tq_sld rL_law_509 (tq_bi rfl hS g76) ?_
                      obtain ⟨p77, e77, hf⟩ := Option.bind_eq_some_iff.mp hf
                      refine ty_callVI p77 ([.int (S.2 ((a3 + (1 : Int32))).toNatClampNeg)]) ([]) rL_law_510 l_L_50 moX11_thick mvX11_thick h1 rfl rfl (Nat.le_of_ble_eq_true rfl) ⟨rfl, rfl⟩ (CX11_thick h1 e77) ?_
                      refine tq_aload_n rL_law_513 rfl ?_
                      refine tq_aloadF_n rL_law_514 rfl ?_
                      refine tq_iload_n rL_law_515 rfl ?_
                      refine tq_iconst (1 : Int32) rL_law_516 (by decide) ?_
                      refine tq_iadd rL_law_517 ?_
                      obtain ⟨g78, hf⟩ := tq_chk hf
                      refine tq_sld rL_law_518 (tq_bi rfl hS g78) ?_
                      obtain ⟨p79, e79, hf⟩ := Option.bind_eq_some_iff.mp hf
                      refine ty_callVI p79.1 ([.int (S.2 ((a3 + (1 : Int32))).toNatClampNeg)]) ([.int p77]) rL_law_519 l_L_53 moX12_thick mvX12_thick h2 rfl rfl (Nat.le_of_ble_eq_true rfl) ⟨rfl, rfl⟩ (CX12_thick h2 e79) ?_
                      refine tq_icmp_eq rL_law_522 (fun c80 => ?_) (fun c80 => ?_)
                      · rw [if_pos c80] at hf
                        exact tq_forget _ (tq_le_s (tq_le_s (tq_le_s (tq_le_s tq_le_n)))) (FL_law_j1717L18_x hS h1 h2 hf hk)
                      · rw [if_neg c80] at hf
                        refine tq_iconst (0 : Int32) rL_law_525 (by decide) ?_
                        refine ty_zret (ty := .boolean) rL_law_526 rfl rfl rfl ?_
                        have hf := Option.some.inj hf
                        subst hf
                        exact hk
                    · rw [if_neg c75] at hf
                      by_cases c81 : ((S.2 a3.toNatClampNeg) &&& (63 : Int32)) = 9
                      · rw [if_pos c81] at hf
                        refine tq_swIn (tgt := 527) 494 rL_law_33 (by rw [c81]; decide) (by rw [c81]; decide) (by rw [c81]; rfl) (by decide) ?_
                        refine tq_aload_n rL_law_527 rfl ?_
                        refine tq_aloadF_n rL_law_528 rfl ?_
                        refine tq_iload_n rL_law_529 rfl ?_
                        refine tq_iconst (1 : Int32) rL_law_530 (by decide) ?_
                        refine tq_iadd rL_law_531 ?_
                        obtain ⟨g82, hf⟩ := tq_chk hf
                        refine tq_sld rL_law_532 (tq_bi rfl hS g82) ?_
                        refine tq_aloadF_n rL_law_533 rfl ?_
                        refine tq_iload_n rL_law_534 rfl ?_
                        refine tq_iconst (2 : Int32) rL_law_535 (by decide) ?_
                        refine tq_iadd rL_law_536 ?_
                        obtain ⟨g83, hf⟩ := tq_chk hf
                        refine tq_sld rL_law_537 (tq_bi rfl hS g83) ?_
                        refine tq_aloadF_n rL_law_538 rfl ?_
                        refine tq_iload_n rL_law_539 rfl ?_
                        refine tq_iconst (3 : Int32) rL_law_540 (by decide) ?_
                        refine tq_iadd rL_law_541 ?_
                        obtain ⟨g84, hf⟩ := tq_chk hf
                        refine tq_sld rL_law_542 (tq_bi rfl hS g84) ?_
                        refine tq_if_eq rL_law_543 (fun c85 => ?_) (fun c85 => ?_)
                        · rw [if_pos c85] at hf
                          refine tq_iconst (0 : Int32) rL_law_550 (by decide) ?_
                          exact tq_forget _ (tq_le_s (tq_le_s (tq_le_s (tq_le_s tq_le_n)))) (FL_law_j551L18_x hS h1 h2 h1 hf hk)
                        · rw [if_neg c85] at hf
                          refine tq_iconst (1 : Int32) rL_law_546 (by decide) ?_
                          refine tq_goto rL_law_547 ?_
                          exact tq_forget _ (tq_le_s (tq_le_s (tq_le_s (tq_le_s tq_le_n)))) (FL_law_j551L18_x hS h1 h2 h1 hf hk)
                      · rw [if_neg c81] at hf
                        by_cases c95 : ((S.2 a3.toNatClampNeg) &&& (63 : Int32)) = 10
                        · rw [if_pos c95] at hf
                          refine tq_swIn (tgt := 596) 563 rL_law_33 (by rw [c95]; decide) (by rw [c95]; decide) (by rw [c95]; rfl) (by decide) ?_
                          refine tq_aload_n rL_law_596 rfl ?_
                          refine tq_aloadF_n rL_law_597 rfl ?_
                          refine tq_iload_n rL_law_598 rfl ?_
                          refine tq_iconst (1 : Int32) rL_law_599 (by decide) ?_
                          refine tq_iadd rL_law_600 ?_
                          obtain ⟨g96, hf⟩ := tq_chk hf
                          refine tq_sld rL_law_601 (tq_bi rfl hS g96) ?_
                          refine tq_aloadF_n rL_law_602 rfl ?_
                          refine tq_iload_n rL_law_603 rfl ?_
                          refine tq_iconst (2 : Int32) rL_law_604 (by decide) ?_
                          refine tq_iadd rL_law_605 ?_
                          obtain ⟨g97, hf⟩ := tq_chk hf
                          refine tq_sld rL_law_606 (tq_bi rfl hS g97) ?_
                          obtain ⟨p98, e98, hf⟩ := Option.bind_eq_some_iff.mp hf
                          refine ty_callVI p98 ([.int (S.2 ((a3 + (1 : Int32))).toNatClampNeg), .int (S.2 ((a3 + (2 : Int32))).toNatClampNeg)]) ([]) rL_law_607 l_L_59 moX11_fell mvX11_fell h1 rfl rfl (Nat.le_of_ble_eq_true rfl) ⟨rfl, rfl⟩ (CX11_fell h1 e98) ?_
                          refine tq_aload_n rL_law_610 rfl ?_
                          refine tq_aloadF_n rL_law_611 rfl ?_
                          refine tq_iload_n rL_law_612 rfl ?_
                          refine tq_iconst (1 : Int32) rL_law_613 (by decide) ?_
                          refine tq_iadd rL_law_614 ?_
                          obtain ⟨g99, hf⟩ := tq_chk hf
                          refine tq_sld rL_law_615 (tq_bi rfl hS g99) ?_
                          refine tq_aloadF_n rL_law_616 rfl ?_
                          refine tq_iload_n rL_law_617 rfl ?_
                          refine tq_iconst (2 : Int32) rL_law_618 (by decide) ?_
                          refine tq_iadd rL_law_619 ?_
                          obtain ⟨g100, hf⟩ := tq_chk hf
                          refine tq_sld rL_law_620 (tq_bi rfl hS g100) ?_
                          obtain ⟨p101, e101, hf⟩ := Option.bind_eq_some_iff.mp hf
                          refine ty_callVI p101.1 ([.int (S.2 ((a3 + (1 : Int32))).toNatClampNeg), .int (S.2 ((a3 + (2 : Int32))).toNatClampNeg)]) ([.int p98]) rL_law_621 l_L_62 moX12_fell mvX12_fell h2 rfl rfl (Nat.le_of_ble_eq_true rfl) ⟨rfl, rfl⟩ (CX12_fell h2 e101) ?_
                          refine tq_icmp_eq rL_law_624 (fun c102 => ?_) (fun c102 => ?_)
                          · rw [if_pos c102] at hf
                            exact tq_forget _ (tq_le_s (tq_le_s (tq_le_s (tq_le_s tq_le_n)))) (FL_law_j1717L18_x hS h1 h2 hf hk)
                          · rw [if_neg c102] at hf
                            refine tq_iconst (0 : Int32) rL_law_627 (by decide) ?_
                            refine ty_zret (ty := .boolean) rL_law_628 rfl rfl rfl ?_
                            have hf := Option.some.inj hf
                            subst hf
                            exact hk
                        · rw [if_neg c95] at hf
                          by_cases c103 : ((S.2 a3.toNatClampNeg) &&& (63 : Int32)) = 11
                          · rw [if_pos c103] at hf
                            refine tq_swIn (tgt := 629) 596 rL_law_33 (by rw [c103]; decide) (by rw [c103]; decide) (by rw [c103]; rfl) (by decide) ?_
                            refine tq_aload_n rL_law_629 rfl ?_
                            refine tq_aloadF_n rL_law_630 rfl ?_
                            refine tq_iload_n rL_law_631 rfl ?_
                            refine tq_iconst (1 : Int32) rL_law_632 (by decide) ?_
                            refine tq_iadd rL_law_633 ?_
                            obtain ⟨g104, hf⟩ := tq_chk hf
                            refine tq_sld rL_law_634 (tq_bi rfl hS g104) ?_
                            refine tq_aloadF_n rL_law_635 rfl ?_
                            refine tq_iload_n rL_law_636 rfl ?_
                            refine tq_iconst (2 : Int32) rL_law_637 (by decide) ?_
                            refine tq_iadd rL_law_638 ?_
                            obtain ⟨g105, hf⟩ := tq_chk hf
                            refine tq_sld rL_law_639 (tq_bi rfl hS g105) ?_
                            refine tq_aloadF_n rL_law_640 rfl ?_
                            refine tq_iload_n rL_law_641 rfl ?_
                            refine tq_iconst (3 : Int32) rL_law_642 (by decide) ?_
                            refine tq_iadd rL_law_643 ?_
                            obtain ⟨g106, hf⟩ := tq_chk hf
                            refine tq_sld rL_law_644 (tq_bi rfl hS g106) ?_
                            refine tq_aloadF_n rL_law_645 rfl ?_
                            refine tq_iload_n rL_law_646 rfl ?_
                            refine tq_iconst (4 : Int32) rL_law_647 (by decide) ?_
                            refine tq_iadd rL_law_648 ?_
                            obtain ⟨g107, hf⟩ := tq_chk hf
                            refine tq_sld rL_law_649 (tq_bi rfl hS g107) ?_
                            obtain ⟨p108, e108, hf⟩ := Option.bind_eq_some_iff.mp hf
                            refine ty_callVI p108.1 ([.int (S.2 ((a3 + (1 : Int32))).toNatClampNeg), .int (S.2 ((a3 + (2 : Int32))).toNatClampNeg), .int (S.2 ((a3 + (3 : Int32))).toNatClampNeg), .int (S.2 ((a3 + (4 : Int32))).toNatClampNeg)]) ([]) rL_law_650 l_L_63 moX11_rich mvX11_rich h1 rfl rfl (Nat.le_of_ble_eq_true rfl) ⟨rfl, rfl⟩ (CX11_rich h1 e108) ?_
                            refine tq_aload_n rL_law_653 rfl ?_
                            refine tq_aloadF_n rL_law_654 rfl ?_
                            refine tq_iload_n rL_law_655 rfl ?_
                            refine tq_iconst (1 : Int32) rL_law_656 (by decide) ?_
                            refine tq_iadd rL_law_657 ?_
                            obtain ⟨g109, hf⟩ := tq_chk hf
                            refine tq_sld rL_law_658 (tq_bi rfl hS g109) ?_
                            refine tq_aloadF_n rL_law_659 rfl ?_
                            refine tq_iload_n rL_law_660 rfl ?_
                            refine tq_iconst (2 : Int32) rL_law_661 (by decide) ?_
                            refine tq_iadd rL_law_662 ?_
                            obtain ⟨g110, hf⟩ := tq_chk hf
                            refine tq_sld rL_law_663 (tq_bi rfl hS g110) ?_
                            refine tq_aloadF_n rL_law_664 rfl ?_
                            refine tq_iload_n rL_law_665 rfl ?_
                            refine tq_iconst (3 : Int32) rL_law_666 (by decide) ?_
                            refine tq_iadd rL_law_667 ?_
                            obtain ⟨g111, hf⟩ := tq_chk hf
                            refine tq_sld rL_law_668 (tq_bi rfl hS g111) ?_
                            refine tq_aloadF_n rL_law_669 rfl ?_
                            refine tq_iload_n rL_law_670 rfl ?_
                            refine tq_iconst (4 : Int32) rL_law_671 (by decide) ?_
                            refine tq_iadd rL_law_672 ?_
                            obtain ⟨g112, hf⟩ := tq_chk hf
                            refine tq_sld rL_law_673 (tq_bi rfl hS g112) ?_
                            obtain ⟨p113, e113, hf⟩ := Option.bind_eq_some_iff.mp hf
                            refine ty_callVI p113.1 ([.int (S.2 ((a3 + (1 : Int32))).toNatClampNeg), .int (S.2 ((a3 + (2 : Int32))).toNatClampNeg), .int (S.2 ((a3 + (3 : Int32))).toNatClampNeg), .int (S.2 ((a3 + (4 : Int32))).toNatClampNeg)]) ([.int p108.1]) rL_law_674 l_L_66 moX12_rich mvX12_rich h2 rfl rfl (Nat.le_of_ble_eq_true rfl) ⟨rfl, rfl⟩ (CX12_rich h2 e113) ?_
                            refine tq_icmp_eq rL_law_677 (fun c114 => ?_) (fun c114 => ?_)
                            · rw [if_pos c114] at hf
                              exact tq_forget _ (tq_le_s (tq_le_s (tq_le_s (tq_le_s tq_le_n)))) (FL_law_j1717L18_x hS h1 h2 hf hk)
                            · rw [if_neg c114] at hf
                              refine tq_iconst (0 : Int32) rL_law_680 (by decide) ?_
                              refine ty_zret (ty := .boolean) rL_law_681 rfl rfl rfl ?_
                              have hf := Option.some.inj hf
                              subst hf
                              exact hk
                          · rw [if_neg c103] at hf
                            by_cases c115 : ((S.2 a3.toNatClampNeg) &&& (63 : Int32)) = 12
                            · rw [if_pos c115] at hf
                              refine tq_swIn (tgt := 682) 649 rL_law_33 (by rw [c115]; decide) (by rw [c115]; decide) (by rw [c115]; rfl) (by decide) ?_
                              refine tq_aload_n rL_law_682 rfl ?_
                              refine tq_aloadF_n rL_law_683 rfl ?_
                              refine tq_iload_n rL_law_684 rfl ?_
                              refine tq_iconst (1 : Int32) rL_law_685 (by decide) ?_
                              refine tq_iadd rL_law_686 ?_
                              obtain ⟨g116, hf⟩ := tq_chk hf
                              refine tq_sld rL_law_687 (tq_bi rfl hS g116) ?_
                              refine tq_aloadF_n rL_law_688 rfl ?_
                              refine tq_iload_n rL_law_689 rfl ?_
                              refine tq_iconst (2 : Int32) rL_law_690 (by decide) ?_
                              refine tq_iadd rL_law_691 ?_
                              obtain ⟨g117, hf⟩ := tq_chk hf
                              refine tq_sld rL_law_692 (tq_bi rfl hS g117) ?_
                              refine tq_aloadF_n rL_law_693 rfl ?_
                              refine tq_iload_n rL_law_694 rfl ?_
                              refine tq_iconst (3 : Int32) rL_law_695 (by decide) ?_
                              refine tq_iadd rL_law_696 ?_
                              obtain ⟨g118, hf⟩ := tq_chk hf
                              refine tq_sld rL_law_697 (tq_bi rfl hS g118) ?_
                              refine tq_if_eq rL_law_698 (fun c119 => ?_) (fun c119 => ?_)
                              · rw [if_pos c119] at hf
                                refine tq_iconst (0 : Int32) rL_law_705 (by decide) ?_
                                exact tq_forget _ (tq_le_s (tq_le_s (tq_le_s (tq_le_s tq_le_n)))) (FL_law_j706L18_x hS h1 h2 h1 hf hk)
                              · rw [if_neg c119] at hf
                                refine tq_iconst (1 : Int32) rL_law_701 (by decide) ?_
                                refine tq_goto rL_law_702 ?_
                                exact tq_forget _ (tq_le_s (tq_le_s (tq_le_s (tq_le_s tq_le_n)))) (FL_law_j706L18_x hS h1 h2 h1 hf hk)
                            · rw [if_neg c115] at hf
                              by_cases c127 : ((S.2 a3.toNatClampNeg) &&& (63 : Int32)) = 13
                              · rw [if_pos c127] at hf
                                refine tq_swIn (tgt := 741) 708 rL_law_33 (by rw [c127]; decide) (by rw [c127]; decide) (by rw [c127]; rfl) (by decide) ?_
                                refine tq_aload_n rL_law_741 rfl ?_
                                refine tq_aloadF_n rL_law_742 rfl ?_
                                refine tq_iload_n rL_law_743 rfl ?_
                                refine tq_iconst (1 : Int32) rL_law_744 (by decide) ?_
                                refine tq_iadd rL_law_745 ?_
                                obtain ⟨g128, hf⟩ := tq_chk hf
                                refine tq_sld rL_law_746 (tq_bi rfl hS g128) ?_
                                refine tq_aloadF_n rL_law_747 rfl ?_
                                refine tq_iload_n rL_law_748 rfl ?_
                                refine tq_iconst (2 : Int32) rL_law_749 (by decide) ?_
                                refine tq_iadd rL_law_750 ?_
                                obtain ⟨g129, hf⟩ := tq_chk hf
                                refine tq_sld rL_law_751 (tq_bi rfl hS g129) ?_
                                refine tq_if_eq rL_law_752 (fun c130 => ?_) (fun c130 => ?_)
                                · rw [if_pos c130] at hf
                                  refine tq_iconst (0 : Int32) rL_law_759 (by decide) ?_
                                  exact tq_forget _ (tq_le_s (tq_le_s (tq_le_s (tq_le_s tq_le_n)))) (FL_law_j760L18_x hS h1 h2 h1 hf hk)
                                · rw [if_neg c130] at hf
                                  refine tq_iconst (1 : Int32) rL_law_755 (by decide) ?_
                                  refine tq_goto rL_law_756 ?_
                                  exact tq_forget _ (tq_le_s (tq_le_s (tq_le_s (tq_le_s tq_le_n)))) (FL_law_j760L18_x hS h1 h2 h1 hf hk)
                              · rw [if_neg c127] at hf
                                by_cases c137 : ((S.2 a3.toNatClampNeg) &&& (63 : Int32)) = 14
                                · rw [if_pos c137] at hf
                                  refine tq_swIn (tgt := 790) 757 rL_law_33 (by rw [c137]; decide) (by rw [c137]; decide) (by rw [c137]; rfl) (by decide) ?_
                                  refine tq_aload_n rL_law_790 rfl ?_
                                  refine tq_aloadF_n rL_law_791 rfl ?_
                                  refine tq_iload_n rL_law_792 rfl ?_
                                  refine tq_iconst (1 : Int32) rL_law_793 (by decide) ?_
                                  refine tq_iadd rL_law_794 ?_
                                  obtain ⟨g138, hf⟩ := tq_chk hf
                                  refine tq_sld rL_law_795 (tq_bi rfl hS g138) ?_
                                  refine tq_aloadF_n rL_law_796 rfl ?_
                                  refine tq_iload_n rL_law_797 rfl ?_
                                  refine tq_iconst (2 : Int32) rL_law_798 (by decide) ?_
                                  refine tq_iadd rL_law_799 ?_
                                  obtain ⟨g139, hf⟩ := tq_chk hf
                                  refine tq_sld rL_law_800 (tq_bi rfl hS g139) ?_
                                  refine tq_aloadF_n rL_law_801 rfl ?_
                                  refine tq_iload_n rL_law_802 rfl ?_
                                  refine tq_iconst (3 : Int32) rL_law_803 (by decide) ?_
                                  refine tq_iadd rL_law_804 ?_
                                  obtain ⟨g140, hf⟩ := tq_chk hf
                                  refine tq_sld rL_law_805 (tq_bi rfl hS g140) ?_
                                  obtain ⟨p141, e141, hf⟩ := Option.bind_eq_some_iff.mp hf
                                  refine ty_callVI p141.1 ([.int (S.2 ((a3 + (1 : Int32))).toNatClampNeg), .int (S.2 ((a3 + (2 : Int32))).toNatClampNeg), .int (S.2 ((a3 + (3 : Int32))).toNatClampNeg)]) ([]) rL_law_806 l_L_77 moX11_propped mvX11_propped h1 rfl rfl (Nat.le_of_ble_eq_true rfl) ⟨rfl, rfl⟩ (CX11_propped h1 e141) ?_
                                  refine tq_aload_n rL_law_809 rfl ?_
                                  refine tq_aloadF_n rL_law_810 rfl ?_
                                  refine tq_iload_n rL_law_811 rfl ?_
                                  refine tq_iconst (1 : Int32) rL_law_812 (by decide) ?_
                                  refine tq_iadd rL_law_813 ?_
                                  obtain ⟨g142, hf⟩ := tq_chk hf
                                  refine tq_sld rL_law_814 (tq_bi rfl hS g142) ?_
                                  refine tq_aloadF_n rL_law_815 rfl ?_
                                  refine tq_iload_n rL_law_816 rfl ?_
                                  refine tq_iconst (2 : Int32) rL_law_817 (by decide) ?_
                                  refine tq_iadd rL_law_818 ?_
                                  obtain ⟨g143, hf⟩ := tq_chk hf
                                  refine tq_sld rL_law_819 (tq_bi rfl hS g143) ?_
                                  refine tq_aloadF_n rL_law_820 rfl ?_
                                  refine tq_iload_n rL_law_821 rfl ?_
                                  refine tq_iconst (3 : Int32) rL_law_822 (by decide) ?_
                                  refine tq_iadd rL_law_823 ?_
                                  obtain ⟨g144, hf⟩ := tq_chk hf
                                  refine tq_sld rL_law_824 (tq_bi rfl hS g144) ?_
                                  obtain ⟨p145, e145, hf⟩ := Option.bind_eq_some_iff.mp hf
                                  refine ty_callVI p145.1 ([.int (S.2 ((a3 + (1 : Int32))).toNatClampNeg), .int (S.2 ((a3 + (2 : Int32))).toNatClampNeg), .int (S.2 ((a3 + (3 : Int32))).toNatClampNeg)]) ([.int p141.1]) rL_law_825 l_L_80 moX12_propped mvX12_propped h2 rfl rfl (Nat.le_of_ble_eq_true rfl) ⟨rfl, rfl⟩ (CX12_propped h2 e145) ?_
                                  refine tq_icmp_eq rL_law_828 (fun c146 => ?_) (fun c146 => ?_)
                                  · rw [if_pos c146] at hf
                                    exact tq_forget _ (tq_le_s (tq_le_s (tq_le_s (tq_le_s tq_le_n)))) (FL_law_j1717L18_x hS h1 h2 hf hk)
                                  · rw [if_neg c146] at hf
                                    refine tq_iconst (0 : Int32) rL_law_831 (by decide) ?_
                                    refine ty_zret (ty := .boolean) rL_law_832 rfl rfl rfl ?_
                                    have hf := Option.some.inj hf
                                    subst hf
                                    exact hk
                                · rw [if_neg c137] at hf
                                  by_cases c147 : ((S.2 a3.toNatClampNeg) &&& (63 : Int32)) = 15
                                  · rw [if_pos c147] at hf
                                    refine tq_swIn (tgt := 833) 800 rL_law_33 (by rw [c147]; decide) (by rw [c147]; decide) (by rw [c147]; rfl) (by decide) ?_
                                    refine tq_aload_n rL_law_833 rfl ?_
                                    refine tq_aloadF_n rL_law_834 rfl ?_
                                    refine tq_iload_n rL_law_835 rfl ?_
                                    refine tq_iconst (1 : Int32) rL_law_836 (by decide) ?_
                                    refine tq_iadd rL_law_837 ?_
                                    obtain ⟨g148, hf⟩ := tq_chk hf
                                    refine tq_sld rL_law_838 (tq_bi rfl hS g148) ?_
                                    refine tq_aloadF_n rL_law_839 rfl ?_
                                    refine tq_iload_n rL_law_840 rfl ?_
                                    refine tq_iconst (2 : Int32) rL_law_841 (by decide) ?_
                                    refine tq_iadd rL_law_842 ?_
                                    obtain ⟨g149, hf⟩ := tq_chk hf
                                    refine tq_sld rL_law_843 (tq_bi rfl hS g149) ?_
                                    refine tq_aloadF_n rL_law_844 rfl ?_
                                    refine tq_iload_n rL_law_845 rfl ?_
                                    refine tq_iconst (3 : Int32) rL_law_846 (by decide) ?_
                                    refine tq_iadd rL_law_847 ?_
                                    obtain ⟨g150, hf⟩ := tq_chk hf
                                    refine tq_sld rL_law_848 (tq_bi rfl hS g150) ?_
                                    refine tq_if_eq rL_law_849 (fun c151 => ?_) (fun c151 => ?_)
                                    · rw [if_pos c151] at hf
                                      refine tq_iconst (0 : Int32) rL_law_856 (by decide) ?_
                                      exact tq_forget _ (tq_le_s (tq_le_s (tq_le_s (tq_le_s tq_le_n)))) (FL_law_j857L18_x hS h1 h2 h1 hf hk)
                                    · rw [if_neg c151] at hf
                                      refine tq_iconst (1 : Int32) rL_law_852 (by decide) ?_
                                      refine tq_goto rL_law_853 ?_
                                      exact tq_forget _ (tq_le_s (tq_le_s (tq_le_s (tq_le_s tq_le_n)))) (FL_law_j857L18_x hS h1 h2 h1 hf hk)
                                  · rw [if_neg c147] at hf
                                    by_cases c159 : ((S.2 a3.toNatClampNeg) &&& (63 : Int32)) = 16
                                    · rw [if_pos c159] at hf
                                      refine tq_swIn (tgt := 893) 860 rL_law_33 (by rw [c159]; decide) (by rw [c159]; decide) (by rw [c159]; rfl) (by decide) ?_
                                      refine tq_aload_n rL_law_893 rfl ?_
                                      refine tq_aloadF_n rL_law_894 rfl ?_
                                      refine tq_iload_n rL_law_895 rfl ?_
                                      refine tq_iconst (1 : Int32) rL_law_896 (by decide) ?_
                                      refine tq_iadd rL_law_897 ?_
                                      obtain ⟨g160, hf⟩ := tq_chk hf
                                      refine tq_sld rL_law_898 (tq_bi rfl hS g160) ?_
                                      refine tq_aloadF_n rL_law_899 rfl ?_
                                      refine tq_iload_n rL_law_900 rfl ?_
                                      refine tq_iconst (2 : Int32) rL_law_901 (by decide) ?_
                                      refine tq_iadd rL_law_902 ?_
                                      obtain ⟨g161, hf⟩ := tq_chk hf
                                      refine tq_sld rL_law_903 (tq_bi rfl hS g161) ?_
                                      refine tq_aloadF_n rL_law_904 rfl ?_
                                      refine tq_iload_n rL_law_905 rfl ?_
                                      refine tq_iconst (3 : Int32) rL_law_906 (by decide) ?_
                                      refine tq_iadd rL_law_907 ?_
                                      obtain ⟨g162, hf⟩ := tq_chk hf
                                      refine tq_sld rL_law_908 (tq_bi rfl hS g162) ?_
                                      obtain ⟨p163, e163, hf⟩ := Option.bind_eq_some_iff.mp hf
                                      refine ty_callVI p163 ([.int (S.2 ((a3 + (1 : Int32))).toNatClampNeg), .int (S.2 ((a3 + (2 : Int32))).toNatClampNeg), .int (S.2 ((a3 + (3 : Int32))).toNatClampNeg)]) ([]) rL_law_909 l_L_86 moX11_fact mvX11_fact h1 rfl rfl (Nat.le_of_ble_eq_true rfl) ⟨rfl, rfl⟩ (CX11_fact h1 e163) ?_
                                      refine tq_aload_n rL_law_912 rfl ?_
                                      refine tq_aloadF_n rL_law_913 rfl ?_
                                      refine tq_iload_n rL_law_914 rfl ?_
                                      refine tq_iconst (1 : Int32) rL_law_915 (by decide) ?_
                                      refine tq_iadd rL_law_916 ?_
                                      obtain ⟨g164, hf⟩ := tq_chk hf
                                      refine tq_sld rL_law_917 (tq_bi rfl hS g164) ?_
                                      refine tq_aloadF_n rL_law_918 rfl ?_
                                      refine tq_iload_n rL_law_919 rfl ?_
                                      refine tq_iconst (2 : Int32) rL_law_920 (by decide) ?_
                                      refine tq_iadd rL_law_921 ?_
                                      obtain ⟨g165, hf⟩ := tq_chk hf
                                      refine tq_sld rL_law_922 (tq_bi rfl hS g165) ?_
                                      refine tq_aloadF_n rL_law_923 rfl ?_
                                      refine tq_iload_n rL_law_924 rfl ?_
                                      refine tq_iconst (3 : Int32) rL_law_925 (by decide) ?_
                                      refine tq_iadd rL_law_926 ?_
                                      obtain ⟨g166, hf⟩ := tq_chk hf
                                      refine tq_sld rL_law_927 (tq_bi rfl hS g166) ?_
                                      obtain ⟨p167, e167, hf⟩ := Option.bind_eq_some_iff.mp hf
                                      refine ty_callVI p167.1 ([.int (S.2 ((a3 + (1 : Int32))).toNatClampNeg), .int (S.2 ((a3 + (2 : Int32))).toNatClampNeg), .int (S.2 ((a3 + (3 : Int32))).toNatClampNeg)]) ([.int p163]) rL_law_928 l_L_89 moX12_fact mvX12_fact h2 rfl rfl (Nat.le_of_ble_eq_true rfl) ⟨rfl, rfl⟩ (CX12_fact h2 e167) ?_
                                      refine tq_icmp_eq rL_law_931 (fun c168 => ?_) (fun c168 => ?_)
                                      · rw [if_pos c168] at hf
                                        exact tq_forget _ (tq_le_s (tq_le_s (tq_le_s (tq_le_s tq_le_n)))) (FL_law_j1717L18_x hS h1 h2 hf hk)
                                      · rw [if_neg c168] at hf
                                        refine tq_iconst (0 : Int32) rL_law_934 (by decide) ?_
                                        refine ty_zret (ty := .boolean) rL_law_935 rfl rfl rfl ?_
                                        have hf := Option.some.inj hf
                                        subst hf
                                        exact hk
                                    · rw [if_neg c159] at hf
                                      by_cases c169 : ((S.2 a3.toNatClampNeg) &&& (63 : Int32)) = 17
                                      · rw [if_pos c169] at hf
                                        refine tq_swIn (tgt := 936) 903 rL_law_33 (by rw [c169]; decide) (by rw [c169]; decide) (by rw [c169]; rfl) (by decide) ?_
                                        refine tq_aload_n rL_law_936 rfl ?_
                                        refine tq_aloadF_n rL_law_937 rfl ?_
                                        refine tq_iload_n rL_law_938 rfl ?_
                                        refine tq_iconst (1 : Int32) rL_law_939 (by decide) ?_
                                        refine tq_iadd rL_law_940 ?_
                                        obtain ⟨g170, hf⟩ := tq_chk hf
                                        refine tq_sld rL_law_941 (tq_bi rfl hS g170) ?_
                                        refine tq_aloadF_n rL_law_942 rfl ?_
                                        refine tq_iload_n rL_law_943 rfl ?_
                                        refine tq_iconst (2 : Int32) rL_law_944 (by decide) ?_
                                        refine tq_iadd rL_law_945 ?_
                                        obtain ⟨g171, hf⟩ := tq_chk hf
                                        refine tq_sld rL_law_946 (tq_bi rfl hS g171) ?_
                                        obtain ⟨p172, e172, hf⟩ := Option.bind_eq_some_iff.mp hf
                                        refine ty_callVI p172.1 ([.int (S.2 ((a3 + (1 : Int32))).toNatClampNeg), .int (S.2 ((a3 + (2 : Int32))).toNatClampNeg)]) ([]) rL_law_947 l_L_90 moX11_fits mvX11_fits h1 rfl rfl (Nat.le_of_ble_eq_true rfl) ⟨rfl, rfl⟩ (CX11_fits h1 e172) ?_
                                        refine tq_aload_n rL_law_950 rfl ?_
                                        refine tq_aloadF_n rL_law_951 rfl ?_
                                        refine tq_iload_n rL_law_952 rfl ?_
                                        refine tq_iconst (1 : Int32) rL_law_953 (by decide) ?_
                                        refine tq_iadd rL_law_954 ?_
                                        obtain ⟨g173, hf⟩ := tq_chk hf
                                        refine tq_sld rL_law_955 (tq_bi rfl hS g173) ?_
                                        refine tq_aloadF_n rL_law_956 rfl ?_
                                        refine tq_iload_n rL_law_957 rfl ?_
                                        refine tq_iconst (2 : Int32) rL_law_958 (by decide) ?_
                                        refine tq_iadd rL_law_959 ?_
                                        obtain ⟨g174, hf⟩ := tq_chk hf
                                        refine tq_sld rL_law_960 (tq_bi rfl hS g174) ?_
                                        obtain ⟨p175, e175, hf⟩ := Option.bind_eq_some_iff.mp hf
                                        refine ty_callVI p175.1 ([.int (S.2 ((a3 + (1 : Int32))).toNatClampNeg), .int (S.2 ((a3 + (2 : Int32))).toNatClampNeg)]) ([.int p172.1]) rL_law_961 l_L_93 moX12_fits mvX12_fits h2 rfl rfl (Nat.le_of_ble_eq_true rfl) ⟨rfl, rfl⟩ (CX12_fits h2 e175) ?_
                                        refine tq_icmp_eq rL_law_964 (fun c176 => ?_) (fun c176 => ?_)
                                        · rw [if_pos c176] at hf
                                          exact tq_forget _ (tq_le_s (tq_le_s (tq_le_s (tq_le_s tq_le_n)))) (FL_law_j1717L18_x hS h1 h2 hf hk)
                                        · rw [if_neg c176] at hf
                                          refine tq_iconst (0 : Int32) rL_law_967 (by decide) ?_
                                          refine ty_zret (ty := .boolean) rL_law_968 rfl rfl rfl ?_
                                          have hf := Option.some.inj hf
                                          subst hf
                                          exact hk
                                      · rw [if_neg c169] at hf
                                        by_cases c177 : ((S.2 a3.toNatClampNeg) &&& (63 : Int32)) = 18
                                        · rw [if_pos c177] at hf
                                          refine tq_swIn (tgt := 969) 936 rL_law_33 (by rw [c177]; decide) (by rw [c177]; decide) (by rw [c177]; rfl) (by decide) ?_
                                          refine tq_aload_n rL_law_969 rfl ?_
                                          refine tq_aloadF_n rL_law_970 rfl ?_
                                          refine tq_iload_n rL_law_971 rfl ?_
                                          refine tq_iconst (1 : Int32) rL_law_972 (by decide) ?_
                                          refine tq_iadd rL_law_973 ?_
                                          obtain ⟨g178, hf⟩ := tq_chk hf
                                          refine tq_sld rL_law_974 (tq_bi rfl hS g178) ?_
                                          refine tq_aloadF_n rL_law_975 rfl ?_
                                          refine tq_iload_n rL_law_976 rfl ?_
                                          refine tq_iconst (2 : Int32) rL_law_977 (by decide) ?_
                                          refine tq_iadd rL_law_978 ?_
                                          obtain ⟨g179, hf⟩ := tq_chk hf
                                          refine tq_sld rL_law_979 (tq_bi rfl hS g179) ?_
                                          obtain ⟨p180, e180, hf⟩ := Option.bind_eq_some_iff.mp hf
                                          refine ty_callVI p180.1 ([.int (S.2 ((a3 + (1 : Int32))).toNatClampNeg), .int (S.2 ((a3 + (2 : Int32))).toNatClampNeg)]) ([]) rL_law_980 l_L_94 moX11_talk mvX11_talk h1 rfl rfl (Nat.le_of_ble_eq_true rfl) ⟨rfl, rfl⟩ (CX11_talk h1 e180) ?_
                                          refine tq_aload_n rL_law_983 rfl ?_
                                          refine tq_aloadF_n rL_law_984 rfl ?_
                                          refine tq_iload_n rL_law_985 rfl ?_
                                          refine tq_iconst (1 : Int32) rL_law_986 (by decide) ?_
                                          refine tq_iadd rL_law_987 ?_
                                          obtain ⟨g181, hf⟩ := tq_chk hf
                                          refine tq_sld rL_law_988 (tq_bi rfl hS g181) ?_
                                          refine tq_aloadF_n rL_law_989 rfl ?_
                                          refine tq_iload_n rL_law_990 rfl ?_
                                          refine tq_iconst (2 : Int32) rL_law_991 (by decide) ?_
                                          refine tq_iadd rL_law_992 ?_
                                          obtain ⟨g182, hf⟩ := tq_chk hf
                                          refine tq_sld rL_law_993 (tq_bi rfl hS g182) ?_
                                          obtain ⟨p183, e183, hf⟩ := Option.bind_eq_some_iff.mp hf
                                          refine ty_callVI p183.1 ([.int (S.2 ((a3 + (1 : Int32))).toNatClampNeg), .int (S.2 ((a3 + (2 : Int32))).toNatClampNeg)]) ([.int p180.1]) rL_law_994 l_L_97 moX12_talk mvX12_talk h2 rfl rfl (Nat.le_of_ble_eq_true rfl) ⟨rfl, rfl⟩ (CX12_talk h2 e183) ?_
                                          refine tq_icmp_eq rL_law_997 (fun c184 => ?_) (fun c184 => ?_)
                                          · rw [if_pos c184] at hf
                                            exact tq_forget _ (tq_le_s (tq_le_s (tq_le_s (tq_le_s tq_le_n)))) (FL_law_j1717L18_x hS h1 h2 hf hk)
                                          · rw [if_neg c184] at hf
                                            refine tq_iconst (0 : Int32) rL_law_1000 (by decide) ?_
                                            refine ty_zret (ty := .boolean) rL_law_1001 rfl rfl rfl ?_
                                            have hf := Option.some.inj hf
                                            subst hf
                                            exact hk
                                        · rw [if_neg c177] at hf
                                          by_cases c185 : ((S.2 a3.toNatClampNeg) &&& (63 : Int32)) = 19
                                          · rw [if_pos c185] at hf
                                            refine tq_swIn (tgt := 1002) 969 rL_law_33 (by rw [c185]; decide) (by rw [c185]; decide) (by rw [c185]; rfl) (by decide) ?_
                                            refine tq_aload_n rL_law_1002 rfl ?_
                                            refine tq_aloadF_n rL_law_1003 rfl ?_
                                            refine tq_iload_n rL_law_1004 rfl ?_
                                            refine tq_iconst (1 : Int32) rL_law_1005 (by decide) ?_
                                            refine tq_iadd rL_law_1006 ?_
                                            obtain ⟨g186, hf⟩ := tq_chk hf
                                            refine tq_sld rL_law_1007 (tq_bi rfl hS g186) ?_
                                            refine tq_aloadF_n rL_law_1008 rfl ?_
                                            refine tq_iload_n rL_law_1009 rfl ?_
                                            refine tq_iconst (2 : Int32) rL_law_1010 (by decide) ?_
                                            refine tq_iadd rL_law_1011 ?_
                                            obtain ⟨g187, hf⟩ := tq_chk hf
                                            refine tq_sld rL_law_1012 (tq_bi rfl hS g187) ?_
                                            refine tq_aloadF_n rL_law_1013 rfl ?_
                                            refine tq_iload_n rL_law_1014 rfl ?_
                                            refine tq_iconst (3 : Int32) rL_law_1015 (by decide) ?_
                                            refine tq_iadd rL_law_1016 ?_
                                            obtain ⟨g188, hf⟩ := tq_chk hf
                                            refine tq_sld rL_law_1017 (tq_bi rfl hS g188) ?_
                                            refine tq_aloadF_n rL_law_1018 rfl ?_
                                            refine tq_iload_n rL_law_1019 rfl ?_
                                            refine tq_iconst (4 : Int32) rL_law_1020 (by decide) ?_
                                            refine tq_iadd rL_law_1021 ?_
                                            obtain ⟨g189, hf⟩ := tq_chk hf
                                            refine tq_sld rL_law_1022 (tq_bi rfl hS g189) ?_
                                            obtain ⟨p190, e190, hf⟩ := Option.bind_eq_some_iff.mp hf
                                            refine ty_callVI p190.1 ([.int (S.2 ((a3 + (1 : Int32))).toNatClampNeg), .int (S.2 ((a3 + (2 : Int32))).toNatClampNeg), .int (S.2 ((a3 + (3 : Int32))).toNatClampNeg), .int (S.2 ((a3 + (4 : Int32))).toNatClampNeg)]) ([]) rL_law_1023 l_L_98 moX11_drawn mvX11_drawn h1 rfl rfl (Nat.le_of_ble_eq_true rfl) ⟨rfl, rfl⟩ (CX11_drawn h1 e190) ?_
                                            refine tq_aload_n rL_law_1026 rfl ?_
                                            refine tq_aloadF_n rL_law_1027 rfl ?_
                                            refine tq_iload_n rL_law_1028 rfl ?_
                                            refine tq_iconst (1 : Int32) rL_law_1029 (by decide) ?_
                                            refine tq_iadd rL_law_1030 ?_
                                            obtain ⟨g191, hf⟩ := tq_chk hf
                                            refine tq_sld rL_law_1031 (tq_bi rfl hS g191) ?_
                                            refine tq_aloadF_n rL_law_1032 rfl ?_
                                            refine tq_iload_n rL_law_1033 rfl ?_
                                            refine tq_iconst (2 : Int32) rL_law_1034 (by decide) ?_
                                            refine tq_iadd rL_law_1035 ?_
                                            obtain ⟨g192, hf⟩ := tq_chk hf
                                            refine tq_sld rL_law_1036 (tq_bi rfl hS g192) ?_
                                            refine tq_aloadF_n rL_law_1037 rfl ?_
                                            refine tq_iload_n rL_law_1038 rfl ?_
                                            refine tq_iconst (3 : Int32) rL_law_1039 (by decide) ?_
                                            refine tq_iadd rL_law_1040 ?_
                                            obtain ⟨g193, hf⟩ := tq_chk hf
                                            refine tq_sld rL_law_1041 (tq_bi rfl hS g193) ?_
                                            refine tq_aloadF_n rL_law_1042 rfl ?_
                                            refine tq_iload_n rL_law_1043 rfl ?_
                                            refine tq_iconst (4 : Int32) rL_law_1044 (by decide) ?_
                                            refine tq_iadd rL_law_1045 ?_
                                            obtain ⟨g194, hf⟩ := tq_chk hf
                                            refine tq_sld rL_law_1046 (tq_bi rfl hS g194) ?_
                                            obtain ⟨p195, e195, hf⟩ := Option.bind_eq_some_iff.mp hf
                                            refine ty_callVI p195.1 ([.int (S.2 ((a3 + (1 : Int32))).toNatClampNeg), .int (S.2 ((a3 + (2 : Int32))).toNatClampNeg), .int (S.2 ((a3 + (3 : Int32))).toNatClampNeg), .int (S.2 ((a3 + (4 : Int32))).toNatClampNeg)]) ([.int p190.1]) rL_law_1047 l_L_101 moX12_drawn mvX12_drawn h2 rfl rfl (Nat.le_of_ble_eq_true rfl) ⟨rfl, rfl⟩ (CX12_drawn h2 e195) ?_
                                            refine tq_icmp_eq rL_law_1050 (fun c196 => ?_) (fun c196 => ?_)
                                            · rw [if_pos c196] at hf
                                              exact tq_forget _ (tq_le_s (tq_le_s (tq_le_s (tq_le_s tq_le_n)))) (FL_law_j1717L18_x hS h1 h2 hf hk)
                                            · rw [if_neg c196] at hf
                                              refine tq_iconst (0 : Int32) rL_law_1053 (by decide) ?_
                                              refine ty_zret (ty := .boolean) rL_law_1054 rfl rfl rfl ?_
                                              have hf := Option.some.inj hf
                                              subst hf
                                              exact hk
                                          · rw [if_neg c185] at hf
                                            by_cases c197 : ((S.2 a3.toNatClampNeg) &&& (63 : Int32)) = 20
                                            · rw [if_pos c197] at hf
                                              refine tq_swIn (tgt := 1055) 1022 rL_law_33 (by rw [c197]; decide) (by rw [c197]; decide) (by rw [c197]; rfl) (by decide) ?_
                                              refine tq_aload_n rL_law_1055 rfl ?_
                                              refine tq_aloadF_n rL_law_1056 rfl ?_
                                              refine tq_iload_n rL_law_1057 rfl ?_
                                              refine tq_iconst (1 : Int32) rL_law_1058 (by decide) ?_
                                              refine tq_iadd rL_law_1059 ?_
                                              obtain ⟨g198, hf⟩ := tq_chk hf
                                              refine tq_sld rL_law_1060 (tq_bi rfl hS g198) ?_
                                              obtain ⟨p199, e199, hf⟩ := Option.bind_eq_some_iff.mp hf
                                              refine ty_callVI p199.1 ([.int (S.2 ((a3 + (1 : Int32))).toNatClampNeg)]) ([]) rL_law_1061 l_L_102 moX11_path mvX11_path h1 rfl rfl (Nat.le_of_ble_eq_true rfl) ⟨rfl, rfl⟩ (CX11_path h1 e199) ?_
                                              refine tq_aload_n rL_law_1064 rfl ?_
                                              refine tq_aloadF_n rL_law_1065 rfl ?_
                                              refine tq_iload_n rL_law_1066 rfl ?_
                                              refine tq_iconst (1 : Int32) rL_law_1067 (by decide) ?_
                                              refine tq_iadd rL_law_1068 ?_
                                              obtain ⟨g200, hf⟩ := tq_chk hf
                                              refine tq_sld rL_law_1069 (tq_bi rfl hS g200) ?_
                                              obtain ⟨p201, e201, hf⟩ := Option.bind_eq_some_iff.mp hf
                                              refine ty_callVI p201.1 ([.int (S.2 ((a3 + (1 : Int32))).toNatClampNeg)]) ([.int p199.1]) rL_law_1070 l_L_105 moX12_path mvX12_path h2 rfl rfl (Nat.le_of_ble_eq_true rfl) ⟨rfl, rfl⟩ (CX12_path h2 e201) ?_
                                              refine tq_icmp_eq rL_law_1073 (fun c202 => ?_) (fun c202 => ?_)
                                              · rw [if_pos c202] at hf
                                                exact tq_forget _ (tq_le_s (tq_le_s (tq_le_s (tq_le_s tq_le_n)))) (FL_law_j1717L18_x hS h1 h2 hf hk)
                                              · rw [if_neg c202] at hf
                                                refine tq_iconst (0 : Int32) rL_law_1076 (by decide) ?_
                                                refine ty_zret (ty := .boolean) rL_law_1077 rfl rfl rfl ?_
                                                have hf := Option.some.inj hf
                                                subst hf
                                                exact hk
                                            · rw [if_neg c197] at hf
                                              by_cases c203 : ((S.2 a3.toNatClampNeg) &&& (63 : Int32)) = 21
                                              · rw [if_pos c203] at hf
                                                refine tq_swIn (tgt := 1078) 1045 rL_law_33 (by rw [c203]; decide) (by rw [c203]; decide) (by rw [c203]; rfl) (by decide) ?_
                                                refine tq_aload_n rL_law_1078 rfl ?_
                                                refine tq_aloadF_n rL_law_1079 rfl ?_
                                                refine tq_iload_n rL_law_1080 rfl ?_
                                                refine tq_iconst (1 : Int32) rL_law_1081 (by decide) ?_
                                                refine tq_iadd rL_law_1082 ?_
                                                obtain ⟨g204, hf⟩ := tq_chk hf
                                                refine tq_sld rL_law_1083 (tq_bi rfl hS g204) ?_
                                                refine tq_aloadF_n rL_law_1084 rfl ?_
                                                refine tq_iload_n rL_law_1085 rfl ?_
                                                refine tq_iconst (2 : Int32) rL_law_1086 (by decide) ?_
                                                refine tq_iadd rL_law_1087 ?_
                                                obtain ⟨g205, hf⟩ := tq_chk hf
                                                refine tq_sld rL_law_1088 (tq_bi rfl hS g205) ?_
                                                obtain ⟨p206, e206, hf⟩ := Option.bind_eq_some_iff.mp hf
                                                refine ty_callVI p206 ([.int (S.2 ((a3 + (1 : Int32))).toNatClampNeg), .int (S.2 ((a3 + (2 : Int32))).toNatClampNeg)]) ([]) rL_law_1089 l_L_106 moX11_caves mvX11_caves h1 rfl rfl (Nat.le_of_ble_eq_true rfl) ⟨rfl, rfl⟩ (CX11_caves h1 e206) ?_
                                                refine tq_aload_n rL_law_1092 rfl ?_
                                                refine tq_aloadF_n rL_law_1093 rfl ?_
                                                refine tq_iload_n rL_law_1094 rfl ?_
                                                refine tq_iconst (1 : Int32) rL_law_1095 (by decide) ?_
                                                refine tq_iadd rL_law_1096 ?_
                                                obtain ⟨g207, hf⟩ := tq_chk hf
                                                refine tq_sld rL_law_1097 (tq_bi rfl hS g207) ?_
                                                refine tq_aloadF_n rL_law_1098 rfl ?_
                                                refine tq_iload_n rL_law_1099 rfl ?_
                                                refine tq_iconst (2 : Int32) rL_law_1100 (by decide) ?_
                                                refine tq_iadd rL_law_1101 ?_
                                                obtain ⟨g208, hf⟩ := tq_chk hf
                                                refine tq_sld rL_law_1102 (tq_bi rfl hS g208) ?_
                                                obtain ⟨p209, e209, hf⟩ := Option.bind_eq_some_iff.mp hf
                                                refine ty_callVI p209.1 ([.int (S.2 ((a3 + (1 : Int32))).toNatClampNeg), .int (S.2 ((a3 + (2 : Int32))).toNatClampNeg)]) ([.int p206]) rL_law_1103 l_L_109 moX12_caves mvX12_caves h2 rfl rfl (Nat.le_of_ble_eq_true rfl) ⟨rfl, rfl⟩ (CX12_caves h2 e209) ?_
                                                refine tq_icmp_eq rL_law_1106 (fun c210 => ?_) (fun c210 => ?_)
                                                · rw [if_pos c210] at hf
                                                  exact tq_forget _ (tq_le_s (tq_le_s (tq_le_s (tq_le_s tq_le_n)))) (FL_law_j1717L18_x hS h1 h2 hf hk)
                                                · rw [if_neg c210] at hf
                                                  refine tq_iconst (0 : Int32) rL_law_1109 (by decide) ?_
                                                  refine ty_zret (ty := .boolean) rL_law_1110 rfl rfl rfl ?_
                                                  have hf := Option.some.inj hf
                                                  subst hf
                                                  exact hk
                                              · rw [if_neg c203] at hf
                                                by_cases c211 : ((S.2 a3.toNatClampNeg) &&& (63 : Int32)) = 22
                                                · rw [if_pos c211] at hf
                                                  refine tq_swIn (tgt := 1111) 1078 rL_law_33 (by rw [c211]; decide) (by rw [c211]; decide) (by rw [c211]; rfl) (by decide) ?_
                                                  refine tq_aload_n rL_law_1111 rfl ?_
                                                  refine tq_aloadF_n rL_law_1112 rfl ?_
                                                  refine tq_iload_n rL_law_1113 rfl ?_
                                                  refine tq_iconst (1 : Int32) rL_law_1114 (by decide) ?_
                                                  refine tq_iadd rL_law_1115 ?_
                                                  obtain ⟨g212, hf⟩ := tq_chk hf
                                                  refine tq_sld rL_law_1116 (tq_bi rfl hS g212) ?_
                                                  refine tq_aloadF_n rL_law_1117 rfl ?_
                                                  refine tq_iload_n rL_law_1118 rfl ?_
                                                  refine tq_iconst (2 : Int32) rL_law_1119 (by decide) ?_
                                                  refine tq_iadd rL_law_1120 ?_
                                                  obtain ⟨g213, hf⟩ := tq_chk hf
                                                  refine tq_sld rL_law_1121 (tq_bi rfl hS g213) ?_
                                                  obtain ⟨p214, e214, hf⟩ := Option.bind_eq_some_iff.mp hf
                                                  refine ty_callVI p214 ([.int (S.2 ((a3 + (1 : Int32))).toNatClampNeg), .int (S.2 ((a3 + (2 : Int32))).toNatClampNeg)]) ([]) rL_law_1122 l_L_110 moX11_pillars mvX11_pillars h1 rfl rfl (Nat.le_of_ble_eq_true rfl) ⟨rfl, rfl⟩ (CX11_pillars h1 e214) ?_
                                                  refine tq_aload_n rL_law_1125 rfl ?_
                                                  refine tq_aloadF_n rL_law_1126 rfl ?_
                                                  refine tq_iload_n rL_law_1127 rfl ?_
                                                  refine tq_iconst (1 : Int32) rL_law_1128 (by decide) ?_
                                                  refine tq_iadd rL_law_1129 ?_
                                                  obtain ⟨g215, hf⟩ := tq_chk hf
                                                  refine tq_sld rL_law_1130 (tq_bi rfl hS g215) ?_
                                                  refine tq_aloadF_n rL_law_1131 rfl ?_
                                                  refine tq_iload_n rL_law_1132 rfl ?_
                                                  refine tq_iconst (2 : Int32) rL_law_1133 (by decide) ?_
                                                  refine tq_iadd rL_law_1134 ?_
                                                  obtain ⟨g216, hf⟩ := tq_chk hf
                                                  refine tq_sld rL_law_1135 (tq_bi rfl hS g216) ?_
                                                  obtain ⟨p217, e217, hf⟩ := Option.bind_eq_some_iff.mp hf
                                                  refine ty_callVI p217.1 ([.int (S.2 ((a3 + (1 : Int32))).toNatClampNeg), .int (S.2 ((a3 + (2 : Int32))).toNatClampNeg)]) ([.int p214]) rL_law_1136 l_L_113 moX12_pillars mvX12_pillars h2 rfl rfl (Nat.le_of_ble_eq_true rfl) ⟨rfl, rfl⟩ (CX12_pillars h2 e217) ?_
                                                  refine tq_icmp_eq rL_law_1139 (fun c218 => ?_) (fun c218 => ?_)
                                                  · rw [if_pos c218] at hf
                                                    exact tq_forget _ (tq_le_s (tq_le_s (tq_le_s (tq_le_s tq_le_n)))) (FL_law_j1717L18_x hS h1 h2 hf hk)
                                                  · rw [if_neg c218] at hf
                                                    refine tq_iconst (0 : Int32) rL_law_1142 (by decide) ?_
                                                    refine ty_zret (ty := .boolean) rL_law_1143 rfl rfl rfl ?_
                                                    have hf := Option.some.inj hf
                                                    subst hf
                                                    exact hk
                                                · rw [if_neg c211] at hf
                                                  by_cases c219 : ((S.2 a3.toNatClampNeg) &&& (63 : Int32)) = 23
                                                  · rw [if_pos c219] at hf
                                                    refine tq_swIn (tgt := 1144) 1111 rL_law_33 (by rw [c219]; decide) (by rw [c219]; decide) (by rw [c219]; rfl) (by decide) ?_
                                                    refine tq_aload_n rL_law_1144 rfl ?_
                                                    refine tq_aloadF_n rL_law_1145 rfl ?_
                                                    refine tq_iload_n rL_law_1146 rfl ?_
                                                    refine tq_iconst (1 : Int32) rL_law_1147 (by decide) ?_
                                                    refine tq_iadd rL_law_1148 ?_
                                                    obtain ⟨g220, hf⟩ := tq_chk hf
                                                    refine tq_sld rL_law_1149 (tq_bi rfl hS g220) ?_
                                                    refine tq_aloadF_n rL_law_1150 rfl ?_
                                                    refine tq_iload_n rL_law_1151 rfl ?_
                                                    refine tq_iconst (2 : Int32) rL_law_1152 (by decide) ?_
                                                    refine tq_iadd rL_law_1153 ?_
                                                    obtain ⟨g221, hf⟩ := tq_chk hf
                                                    refine tq_sld rL_law_1154 (tq_bi rfl hS g221) ?_
                                                    obtain ⟨p222, e222, hf⟩ := Option.bind_eq_some_iff.mp hf
                                                    refine ty_callVI p222 ([.int (S.2 ((a3 + (1 : Int32))).toNatClampNeg), .int (S.2 ((a3 + (2 : Int32))).toNatClampNeg)]) ([]) rL_law_1155 l_L_114 moX11_nearer mvX11_nearer h1 rfl rfl (Nat.le_of_ble_eq_true rfl) ⟨rfl, rfl⟩ (CX11_nearer h1 e222) ?_
                                                    refine tq_aload_n rL_law_1158 rfl ?_
                                                    refine tq_aloadF_n rL_law_1159 rfl ?_
                                                    refine tq_iload_n rL_law_1160 rfl ?_
                                                    refine tq_iconst (1 : Int32) rL_law_1161 (by decide) ?_
                                                    refine tq_iadd rL_law_1162 ?_
                                                    obtain ⟨g223, hf⟩ := tq_chk hf
                                                    refine tq_sld rL_law_1163 (tq_bi rfl hS g223) ?_
                                                    refine tq_aloadF_n rL_law_1164 rfl ?_
                                                    refine tq_iload_n rL_law_1165 rfl ?_
                                                    refine tq_iconst (2 : Int32) rL_law_1166 (by decide) ?_
                                                    refine tq_iadd rL_law_1167 ?_
                                                    obtain ⟨g224, hf⟩ := tq_chk hf
                                                    refine tq_sld rL_law_1168 (tq_bi rfl hS g224) ?_
                                                    obtain ⟨p225, e225, hf⟩ := Option.bind_eq_some_iff.mp hf
                                                    refine ty_callVI p225.1 ([.int (S.2 ((a3 + (1 : Int32))).toNatClampNeg), .int (S.2 ((a3 + (2 : Int32))).toNatClampNeg)]) ([.int p222]) rL_law_1169 l_L_117 moX12_nearer mvX12_nearer h2 rfl rfl (Nat.le_of_ble_eq_true rfl) ⟨rfl, rfl⟩ (CX12_nearer h2 e225) ?_
                                                    refine tq_icmp_eq rL_law_1172 (fun c226 => ?_) (fun c226 => ?_)
                                                    · rw [if_pos c226] at hf
                                                      exact tq_forget _ (tq_le_s (tq_le_s (tq_le_s (tq_le_s tq_le_n)))) (FL_law_j1717L18_x hS h1 h2 hf hk)
                                                    · rw [if_neg c226] at hf
                                                      refine tq_iconst (0 : Int32) rL_law_1175 (by decide) ?_
                                                      refine ty_zret (ty := .boolean) rL_law_1176 rfl rfl rfl ?_
                                                      have hf := Option.some.inj hf
                                                      subst hf
                                                      exact hk
                                                  · rw [if_neg c219] at hf
                                                    by_cases c227 : ((S.2 a3.toNatClampNeg) &&& (63 : Int32)) = 24
                                                    · rw [if_pos c227] at hf
                                                      refine tq_swIn (tgt := 1177) 1144 rL_law_33 (by rw [c227]; decide) (by rw [c227]; decide) (by rw [c227]; rfl) (by decide) ?_
                                                      refine tq_aload_n rL_law_1177 rfl ?_
                                                      refine tq_aloadF_n rL_law_1178 rfl ?_
                                                      refine tq_iload_n rL_law_1179 rfl ?_
                                                      refine tq_iconst (1 : Int32) rL_law_1180 (by decide) ?_
                                                      refine tq_iadd rL_law_1181 ?_
                                                      obtain ⟨g228, hf⟩ := tq_chk hf
                                                      refine tq_sld rL_law_1182 (tq_bi rfl hS g228) ?_
                                                      refine tq_aloadF_n rL_law_1183 rfl ?_
                                                      refine tq_iload_n rL_law_1184 rfl ?_
                                                      refine tq_iconst (2 : Int32) rL_law_1185 (by decide) ?_
                                                      refine tq_iadd rL_law_1186 ?_
                                                      obtain ⟨g229, hf⟩ := tq_chk hf
                                                      refine tq_sld rL_law_1187 (tq_bi rfl hS g229) ?_
                                                      refine tq_aloadF_n rL_law_1188 rfl ?_
                                                      refine tq_iload_n rL_law_1189 rfl ?_
                                                      refine tq_iconst (3 : Int32) rL_law_1190 (by decide) ?_
                                                      refine tq_iadd rL_law_1191 ?_
                                                      obtain ⟨g230, hf⟩ := tq_chk hf
                                                      refine tq_sld rL_law_1192 (tq_bi rfl hS g230) ?_
                                                      refine tq_if_eq rL_law_1193 (fun c231 => ?_) (fun c231 => ?_)
                                                      · rw [if_pos c231] at hf
                                                        refine tq_iconst (0 : Int32) rL_law_1200 (by decide) ?_
                                                        exact tq_forget _ (tq_le_s (tq_le_s (tq_le_s (tq_le_s tq_le_n)))) (FL_law_j1201L18_x hS h1 h2 h1 hf hk)
                                                      · rw [if_neg c231] at hf
                                                        refine tq_iconst (1 : Int32) rL_law_1196 (by decide) ?_
                                                        refine tq_goto rL_law_1197 ?_
                                                        exact tq_forget _ (tq_le_s (tq_le_s (tq_le_s (tq_le_s tq_le_n)))) (FL_law_j1201L18_x hS h1 h2 h1 hf hk)
                                                    · rw [if_neg c227] at hf
                                                      by_cases c239 : ((S.2 a3.toNatClampNeg) &&& (63 : Int32)) = 25
                                                      · rw [if_pos c239] at hf
                                                        refine tq_swIn (tgt := 1236) 1203 rL_law_33 (by rw [c239]; decide) (by rw [c239]; decide) (by rw [c239]; rfl) (by decide) ?_
                                                        refine tq_aload_n rL_law_1236 rfl ?_
                                                        refine tq_aloadF_n rL_law_1237 rfl ?_
                                                        refine tq_iload_n rL_law_1238 rfl ?_
                                                        refine tq_iconst (1 : Int32) rL_law_1239 (by decide) ?_
                                                        refine tq_iadd rL_law_1240 ?_
                                                        obtain ⟨g240, hf⟩ := tq_chk hf
                                                        refine tq_sld rL_law_1241 (tq_bi rfl hS g240) ?_
                                                        refine tq_aloadF_n rL_law_1242 rfl ?_
                                                        refine tq_iload_n rL_law_1243 rfl ?_
                                                        refine tq_iconst (2 : Int32) rL_law_1244 (by decide) ?_
                                                        refine tq_iadd rL_law_1245 ?_
                                                        obtain ⟨g241, hf⟩ := tq_chk hf
                                                        refine tq_sld rL_law_1246 (tq_bi rfl hS g241) ?_
                                                        refine tq_aloadF_n rL_law_1247 rfl ?_
                                                        refine tq_iload_n rL_law_1248 rfl ?_
                                                        refine tq_iconst (3 : Int32) rL_law_1249 (by decide) ?_
                                                        refine tq_iadd rL_law_1250 ?_
                                                        obtain ⟨g242, hf⟩ := tq_chk hf
                                                        refine tq_sld rL_law_1251 (tq_bi rfl hS g242) ?_
                                                        obtain ⟨p243, e243, hf⟩ := Option.bind_eq_some_iff.mp hf
                                                        refine ty_callVI p243.1 ([.int (S.2 ((a3 + (1 : Int32))).toNatClampNeg), .int (S.2 ((a3 + (2 : Int32))).toNatClampNeg), .int (S.2 ((a3 + (3 : Int32))).toNatClampNeg)]) ([]) rL_law_1252 l_L_122 moX11_race mvX11_race h1 rfl rfl (Nat.le_of_ble_eq_true rfl) ⟨rfl, rfl⟩ (CX11_race h1 e243) ?_
                                                        refine tq_aload_n rL_law_1255 rfl ?_
                                                        refine tq_aloadF_n rL_law_1256 rfl ?_
                                                        refine tq_iload_n rL_law_1257 rfl ?_
                                                        refine tq_iconst (1 : Int32) rL_law_1258 (by decide) ?_
                                                        refine tq_iadd rL_law_1259 ?_
                                                        obtain ⟨g244, hf⟩ := tq_chk hf
                                                        refine tq_sld rL_law_1260 (tq_bi rfl hS g244) ?_
                                                        refine tq_aloadF_n rL_law_1261 rfl ?_
                                                        refine tq_iload_n rL_law_1262 rfl ?_
                                                        refine tq_iconst (2 : Int32) rL_law_1263 (by decide) ?_
                                                        refine tq_iadd rL_law_1264 ?_
                                                        obtain ⟨g245, hf⟩ := tq_chk hf
                                                        refine tq_sld rL_law_1265 (tq_bi rfl hS g245) ?_
                                                        refine tq_aloadF_n rL_law_1266 rfl ?_
                                                        refine tq_iload_n rL_law_1267 rfl ?_
                                                        refine tq_iconst (3 : Int32) rL_law_1268 (by decide) ?_
                                                        refine tq_iadd rL_law_1269 ?_
                                                        obtain ⟨g246, hf⟩ := tq_chk hf
                                                        refine tq_sld rL_law_1270 (tq_bi rfl hS g246) ?_
                                                        obtain ⟨p247, e247, hf⟩ := Option.bind_eq_some_iff.mp hf
                                                        refine ty_callVI p247.1 ([.int (S.2 ((a3 + (1 : Int32))).toNatClampNeg), .int (S.2 ((a3 + (2 : Int32))).toNatClampNeg), .int (S.2 ((a3 + (3 : Int32))).toNatClampNeg)]) ([.int p243.1]) rL_law_1271 l_L_125 moX12_race mvX12_race h2 rfl rfl (Nat.le_of_ble_eq_true rfl) ⟨rfl, rfl⟩ (CX12_race h2 e247) ?_
                                                        refine tq_icmp_eq rL_law_1274 (fun c248 => ?_) (fun c248 => ?_)
                                                        · rw [if_pos c248] at hf
                                                          exact tq_forget _ (tq_le_s (tq_le_s (tq_le_s (tq_le_s tq_le_n)))) (FL_law_j1717L18_x hS h1 h2 hf hk)
                                                        · rw [if_neg c248] at hf
                                                          refine tq_iconst (0 : Int32) rL_law_1277 (by decide) ?_
                                                          refine ty_zret (ty := .boolean) rL_law_1278 rfl rfl rfl ?_
                                                          have hf := Option.some.inj hf
                                                          subst hf
                                                          exact hk
                                                      · rw [if_neg c239] at hf
                                                        by_cases c249 : ((S.2 a3.toNatClampNeg) &&& (63 : Int32)) = 26
                                                        · rw [if_pos c249] at hf
                                                          refine tq_swIn (tgt := 1279) 1246 rL_law_33 (by rw [c249]; decide) (by rw [c249]; decide) (by rw [c249]; rfl) (by decide) ?_
                                                          refine tq_aload_n rL_law_1279 rfl ?_
                                                          refine tq_aloadF_n rL_law_1280 rfl ?_
                                                          refine tq_iload_n rL_law_1281 rfl ?_
                                                          refine tq_iconst (1 : Int32) rL_law_1282 (by decide) ?_
                                                          refine tq_iadd rL_law_1283 ?_
                                                          obtain ⟨g250, hf⟩ := tq_chk hf
                                                          refine tq_sld rL_law_1284 (tq_bi rfl hS g250) ?_
                                                          refine tq_aloadF_n rL_law_1285 rfl ?_
                                                          refine tq_iload_n rL_law_1286 rfl ?_
                                                          refine tq_iconst (2 : Int32) rL_law_1287 (by decide) ?_
                                                          refine tq_iadd rL_law_1288 ?_
                                                          obtain ⟨g251, hf⟩ := tq_chk hf
                                                          refine tq_sld rL_law_1289 (tq_bi rfl hS g251) ?_
                                                          refine tq_aloadF_n rL_law_1290 rfl ?_
                                                          refine tq_iload_n rL_law_1291 rfl ?_
                                                          refine tq_iconst (3 : Int32) rL_law_1292 (by decide) ?_
                                                          refine tq_iadd rL_law_1293 ?_
                                                          obtain ⟨g252, hf⟩ := tq_chk hf
                                                          refine tq_sld rL_law_1294 (tq_bi rfl hS g252) ?_
                                                          obtain ⟨p253, e253, hf⟩ := Option.bind_eq_some_iff.mp hf
                                                          refine ty_callVI p253.1 ([.int (S.2 ((a3 + (1 : Int32))).toNatClampNeg), .int (S.2 ((a3 + (2 : Int32))).toNatClampNeg), .int (S.2 ((a3 + (3 : Int32))).toNatClampNeg)]) ([]) rL_law_1295 l_L_126 moX11_after mvX11_after h1 rfl rfl (Nat.le_of_ble_eq_true rfl) ⟨rfl, rfl⟩ (CX11_after h1 e253) ?_
                                                          refine tq_aload_n rL_law_1298 rfl ?_
                                                          refine tq_aloadF_n rL_law_1299 rfl ?_
                                                          refine tq_iload_n rL_law_1300 rfl ?_
                                                          refine tq_iconst (1 : Int32) rL_law_1301 (by decide) ?_
                                                          refine tq_iadd rL_law_1302 ?_
                                                          obtain ⟨g254, hf⟩ := tq_chk hf
                                                          refine tq_sld rL_law_1303 (tq_bi rfl hS g254) ?_
                                                          refine tq_aloadF_n rL_law_1304 rfl ?_
                                                          refine tq_iload_n rL_law_1305 rfl ?_
                                                          refine tq_iconst (2 : Int32) rL_law_1306 (by decide) ?_
                                                          refine tq_iadd rL_law_1307 ?_
                                                          obtain ⟨g255, hf⟩ := tq_chk hf
                                                          refine tq_sld rL_law_1308 (tq_bi rfl hS g255) ?_
                                                          refine tq_aloadF_n rL_law_1309 rfl ?_
                                                          refine tq_iload_n rL_law_1310 rfl ?_
                                                          refine tq_iconst (3 : Int32) rL_law_1311 (by decide) ?_
                                                          refine tq_iadd rL_law_1312 ?_
                                                          obtain ⟨g256, hf⟩ := tq_chk hf
                                                          refine tq_sld rL_law_1313 (tq_bi rfl hS g256) ?_
                                                          obtain ⟨p257, e257, hf⟩ := Option.bind_eq_some_iff.mp hf
                                                          refine ty_callVI p257.1 ([.int (S.2 ((a3 + (1 : Int32))).toNatClampNeg), .int (S.2 ((a3 + (2 : Int32))).toNatClampNeg), .int (S.2 ((a3 + (3 : Int32))).toNatClampNeg)]) ([.int p253.1]) rL_law_1314 l_L_129 moX12_after mvX12_after h2 rfl rfl (Nat.le_of_ble_eq_true rfl) ⟨rfl, rfl⟩ (CX12_after h2 e257) ?_
                                                          refine tq_icmp_eq rL_law_1317 (fun c258 => ?_) (fun c258 => ?_)
                                                          · rw [if_pos c258] at hf
                                                            exact tq_forget _ (tq_le_s (tq_le_s (tq_le_s (tq_le_s tq_le_n)))) (FL_law_j1717L18_x hS h1 h2 hf hk)
                                                          · rw [if_neg c258] at hf
                                                            refine tq_iconst (0 : Int32) rL_law_1320 (by decide) ?_
                                                            refine ty_zret (ty := .boolean) rL_law_1321 rfl rfl rfl ?_
                                                            have hf := Option.some.inj hf
                                                            subst hf
                                                            exact hk
                                                        · rw [if_neg c249] at hf
                                                          by_cases c259 : ((S.2 a3.toNatClampNeg) &&& (63 : Int32)) = 27
                                                          · rw [if_pos c259] at hf
                                                            refine tq_swIn (tgt := 1322) 1289 rL_law_33 (by rw [c259]; decide) (by rw [c259]; decide) (by rw [c259]; rfl) (by decide) ?_
                                                            refine tq_aload_n rL_law_1322 rfl ?_
                                                            refine tq_aloadF_n rL_law_1323 rfl ?_
                                                            refine tq_iload_n rL_law_1324 rfl ?_
                                                            refine tq_iconst (1 : Int32) rL_law_1325 (by decide) ?_
                                                            refine tq_iadd rL_law_1326 ?_
                                                            obtain ⟨g260, hf⟩ := tq_chk hf
                                                            refine tq_sld rL_law_1327 (tq_bi rfl hS g260) ?_
                                                            refine tq_aloadF_n rL_law_1328 rfl ?_
                                                            refine tq_iload_n rL_law_1329 rfl ?_
                                                            refine tq_iconst (2 : Int32) rL_law_1330 (by decide) ?_
                                                            refine tq_iadd rL_law_1331 ?_
                                                            obtain ⟨g261, hf⟩ := tq_chk hf
                                                            refine tq_sld rL_law_1332 (tq_bi rfl hS g261) ?_
                                                            refine tq_aloadF_n rL_law_1333 rfl ?_
                                                            refine tq_iload_n rL_law_1334 rfl ?_
                                                            refine tq_iconst (3 : Int32) rL_law_1335 (by decide) ?_
                                                            refine tq_iadd rL_law_1336 ?_
                                                            obtain ⟨g262, hf⟩ := tq_chk hf
                                                            refine tq_sld rL_law_1337 (tq_bi rfl hS g262) ?_
                                                            refine tq_if_eq rL_law_1338 (fun c263 => ?_) (fun c263 => ?_)
                                                            · rw [if_pos c263] at hf
                                                              refine tq_iconst (0 : Int32) rL_law_1345 (by decide) ?_
                                                              exact tq_forget _ (tq_le_s (tq_le_s (tq_le_s (tq_le_s tq_le_n)))) (FL_law_j1346L18_x hS h1 h2 h1 hf hk)
                                                            · rw [if_neg c263] at hf
                                                              refine tq_iconst (1 : Int32) rL_law_1341 (by decide) ?_
                                                              refine tq_goto rL_law_1342 ?_
                                                              exact tq_forget _ (tq_le_s (tq_le_s (tq_le_s (tq_le_s tq_le_n)))) (FL_law_j1346L18_x hS h1 h2 h1 hf hk)
                                                          · rw [if_neg c259] at hf
                                                            by_cases c271 : ((S.2 a3.toNatClampNeg) &&& (63 : Int32)) = 28
                                                            · rw [if_pos c271] at hf
                                                              refine tq_swIn (tgt := 1381) 1348 rL_law_33 (by rw [c271]; decide) (by rw [c271]; decide) (by rw [c271]; rfl) (by decide) ?_
                                                              refine tq_aload_n rL_law_1381 rfl ?_
                                                              refine tq_aloadF_n rL_law_1382 rfl ?_
                                                              refine tq_iload_n rL_law_1383 rfl ?_
                                                              refine tq_iconst (1 : Int32) rL_law_1384 (by decide) ?_
                                                              refine tq_iadd rL_law_1385 ?_
                                                              obtain ⟨g272, hf⟩ := tq_chk hf
                                                              refine tq_sld rL_law_1386 (tq_bi rfl hS g272) ?_
                                                              refine tq_aloadF_n rL_law_1387 rfl ?_
                                                              refine tq_iload_n rL_law_1388 rfl ?_
                                                              refine tq_iconst (2 : Int32) rL_law_1389 (by decide) ?_
                                                              refine tq_iadd rL_law_1390 ?_
                                                              obtain ⟨g273, hf⟩ := tq_chk hf
                                                              refine tq_sld rL_law_1391 (tq_bi rfl hS g273) ?_
                                                              obtain ⟨p274, e274, hf⟩ := Option.bind_eq_some_iff.mp hf
                                                              refine ty_callVI p274 ([.int (S.2 ((a3 + (1 : Int32))).toNatClampNeg), .int (S.2 ((a3 + (2 : Int32))).toNatClampNeg)]) ([]) rL_law_1392 l_L_134 moX11_plain mvX11_plain h1 rfl rfl (Nat.le_of_ble_eq_true rfl) ⟨rfl, rfl⟩ (CX11_plain h1 e274) ?_
                                                              refine tq_aload_n rL_law_1395 rfl ?_
                                                              refine tq_aloadF_n rL_law_1396 rfl ?_
                                                              refine tq_iload_n rL_law_1397 rfl ?_
                                                              refine tq_iconst (1 : Int32) rL_law_1398 (by decide) ?_
                                                              refine tq_iadd rL_law_1399 ?_
                                                              obtain ⟨g275, hf⟩ := tq_chk hf
                                                              refine tq_sld rL_law_1400 (tq_bi rfl hS g275) ?_
                                                              refine tq_aloadF_n rL_law_1401 rfl ?_
                                                              refine tq_iload_n rL_law_1402 rfl ?_
                                                              refine tq_iconst (2 : Int32) rL_law_1403 (by decide) ?_
                                                              refine tq_iadd rL_law_1404 ?_
                                                              obtain ⟨g276, hf⟩ := tq_chk hf
                                                              refine tq_sld rL_law_1405 (tq_bi rfl hS g276) ?_
                                                              obtain ⟨p277, e277, hf⟩ := Option.bind_eq_some_iff.mp hf
                                                              refine ty_callVI p277.1 ([.int (S.2 ((a3 + (1 : Int32))).toNatClampNeg), .int (S.2 ((a3 + (2 : Int32))).toNatClampNeg)]) ([.int p274]) rL_law_1406 l_L_137 moX12_plain mvX12_plain h2 rfl rfl (Nat.le_of_ble_eq_true rfl) ⟨rfl, rfl⟩ (CX12_plain h2 e277) ?_
                                                              refine tq_icmp_eq rL_law_1409 (fun c278 => ?_) (fun c278 => ?_)
                                                              · rw [if_pos c278] at hf
                                                                exact tq_forget _ (tq_le_s (tq_le_s (tq_le_s (tq_le_s tq_le_n)))) (FL_law_j1717L18_x hS h1 h2 hf hk)
                                                              · rw [if_neg c278] at hf
                                                                refine tq_iconst (0 : Int32) rL_law_1412 (by decide) ?_
                                                                refine ty_zret (ty := .boolean) rL_law_1413 rfl rfl rfl ?_
                                                                have hf := Option.some.inj hf
                                                                subst hf
                                                                exact hk
                                                            · rw [if_neg c271] at hf
                                                              by_cases c279 : ((S.2 a3.toNatClampNeg) &&& (63 : Int32)) = 29
                                                              · rw [if_pos c279] at hf
                                                                refine tq_swIn (tgt := 1414) 1381 rL_law_33 (by rw [c279]; decide) (by rw [c279]; decide) (by rw [c279]; rfl) (by decide) ?_
                                                                refine tq_aload_n rL_law_1414 rfl ?_
                                                                refine tq_aloadF_n rL_law_1415 rfl ?_
                                                                refine tq_iload_n rL_law_1416 rfl ?_
                                                                refine tq_iconst (1 : Int32) rL_law_1417 (by decide) ?_
                                                                refine tq_iadd rL_law_1418 ?_
                                                                obtain ⟨g280, hf⟩ := tq_chk hf
                                                                refine tq_sld rL_law_1419 (tq_bi rfl hS g280) ?_
                                                                refine tq_aloadF_n rL_law_1420 rfl ?_
                                                                refine tq_iload_n rL_law_1421 rfl ?_
                                                                refine tq_iconst (2 : Int32) rL_law_1422 (by decide) ?_
                                                                refine tq_iadd rL_law_1423 ?_
                                                                obtain ⟨g281, hf⟩ := tq_chk hf
                                                                refine tq_sld rL_law_1424 (tq_bi rfl hS g281) ?_
                                                                refine tq_aloadF_n rL_law_1425 rfl ?_
                                                                refine tq_iload_n rL_law_1426 rfl ?_
                                                                refine tq_iconst (3 : Int32) rL_law_1427 (by decide) ?_
                                                                refine tq_iadd rL_law_1428 ?_
                                                                obtain ⟨g282, hf⟩ := tq_chk hf
                                                                refine tq_sld rL_law_1429 (tq_bi rfl hS g282) ?_
                                                                obtain ⟨p283, e283, hf⟩ := Option.bind_eq_some_iff.mp hf
                                                                refine ty_callVI p283 ([.int (S.2 ((a3 + (1 : Int32))).toNatClampNeg), .int (S.2 ((a3 + (2 : Int32))).toNatClampNeg), .int (S.2 ((a3 + (3 : Int32))).toNatClampNeg)]) ([]) rL_law_1430 l_L_138 moX11_comes mvX11_comes h1 rfl rfl (Nat.le_of_ble_eq_true rfl) ⟨rfl, rfl⟩ (CX11_comes h1 e283) ?_
                                                                refine tq_aload_n rL_law_1433 rfl ?_
                                                                refine tq_aloadF_n rL_law_1434 rfl ?_
                                                                refine tq_iload_n rL_law_1435 rfl ?_
                                                                refine tq_iconst (1 : Int32) rL_law_1436 (by decide) ?_
                                                                refine tq_iadd rL_law_1437 ?_
                                                                obtain ⟨g284, hf⟩ := tq_chk hf
                                                                refine tq_sld rL_law_1438 (tq_bi rfl hS g284) ?_
                                                                refine tq_aloadF_n rL_law_1439 rfl ?_
                                                                refine tq_iload_n rL_law_1440 rfl ?_
                                                                refine tq_iconst (2 : Int32) rL_law_1441 (by decide) ?_
                                                                refine tq_iadd rL_law_1442 ?_
                                                                obtain ⟨g285, hf⟩ := tq_chk hf
                                                                refine tq_sld rL_law_1443 (tq_bi rfl hS g285) ?_
                                                                refine tq_aloadF_n rL_law_1444 rfl ?_
                                                                refine tq_iload_n rL_law_1445 rfl ?_
                                                                refine tq_iconst (3 : Int32) rL_law_1446 (by decide) ?_
                                                                refine tq_iadd rL_law_1447 ?_
                                                                obtain ⟨g286, hf⟩ := tq_chk hf
                                                                refine tq_sld rL_law_1448 (tq_bi rfl hS g286) ?_
                                                                obtain ⟨p287, e287, hf⟩ := Option.bind_eq_some_iff.mp hf
                                                                refine ty_callVI p287.1 ([.int (S.2 ((a3 + (1 : Int32))).toNatClampNeg), .int (S.2 ((a3 + (2 : Int32))).toNatClampNeg), .int (S.2 ((a3 + (3 : Int32))).toNatClampNeg)]) ([.int p283]) rL_law_1449 l_L_141 moX12_comes mvX12_comes h2 rfl rfl (Nat.le_of_ble_eq_true rfl) ⟨rfl, rfl⟩ (CX12_comes h2 e287) ?_
                                                                refine tq_icmp_eq rL_law_1452 (fun c288 => ?_) (fun c288 => ?_)
                                                                · rw [if_pos c288] at hf
                                                                  exact tq_forget _ (tq_le_s (tq_le_s (tq_le_s (tq_le_s tq_le_n)))) (FL_law_j1717L18_x hS h1 h2 hf hk)
                                                                · rw [if_neg c288] at hf
                                                                  refine tq_iconst (0 : Int32) rL_law_1455 (by decide) ?_
                                                                  refine ty_zret (ty := .boolean) rL_law_1456 rfl rfl rfl ?_
                                                                  have hf := Option.some.inj hf
                                                                  subst hf
                                                                  exact hk
                                                              · rw [if_neg c279] at hf
                                                                by_cases c289 : ((S.2 a3.toNatClampNeg) &&& (63 : Int32)) = 30
                                                                · rw [if_pos c289] at hf
                                                                  refine tq_swIn (tgt := 1457) 1424 rL_law_33 (by rw [c289]; decide) (by rw [c289]; decide) (by rw [c289]; rfl) (by decide) ?_
                                                                  refine tq_aload_n rL_law_1457 rfl ?_
                                                                  refine tq_aloadF_n rL_law_1458 rfl ?_
                                                                  refine tq_iload_n rL_law_1459 rfl ?_
                                                                  refine tq_iconst (1 : Int32) rL_law_1460 (by decide) ?_
                                                                  refine tq_iadd rL_law_1461 ?_
                                                                  obtain ⟨g290, hf⟩ := tq_chk hf
                                                                  refine tq_sld rL_law_1462 (tq_bi rfl hS g290) ?_
                                                                  refine tq_aloadF_n rL_law_1463 rfl ?_
                                                                  refine tq_iload_n rL_law_1464 rfl ?_
                                                                  refine tq_iconst (2 : Int32) rL_law_1465 (by decide) ?_
                                                                  refine tq_iadd rL_law_1466 ?_
                                                                  obtain ⟨g291, hf⟩ := tq_chk hf
                                                                  refine tq_sld rL_law_1467 (tq_bi rfl hS g291) ?_
                                                                  refine tq_if_eq rL_law_1468 (fun c292 => ?_) (fun c292 => ?_)
                                                                  · rw [if_pos c292] at hf
                                                                    refine tq_iconst (0 : Int32) rL_law_1475 (by decide) ?_
                                                                    exact tq_forget _ (tq_le_s (tq_le_s (tq_le_s (tq_le_s tq_le_n)))) (FL_law_j1476L18_x hS h1 h2 h1 hf hk)
                                                                  · rw [if_neg c292] at hf
                                                                    refine tq_iconst (1 : Int32) rL_law_1471 (by decide) ?_
                                                                    refine tq_goto rL_law_1472 ?_
                                                                    exact tq_forget _ (tq_le_s (tq_le_s (tq_le_s (tq_le_s tq_le_n)))) (FL_law_j1476L18_x hS h1 h2 h1 hf hk)
                                                                · rw [if_neg c289] at hf
                                                                  by_cases c299 : ((S.2 a3.toNatClampNeg) &&& (63 : Int32)) = 31
                                                                  · rw [if_pos c299] at hf
                                                                    refine tq_swIn (tgt := 1506) 1473 rL_law_33 (by rw [c299]; decide) (by rw [c299]; decide) (by rw [c299]; rfl) (by decide) ?_
                                                                    refine tq_aload_n rL_law_1506 rfl ?_
                                                                    refine tq_aloadF_n rL_law_1507 rfl ?_
                                                                    refine tq_iload_n rL_law_1508 rfl ?_
                                                                    refine tq_iconst (1 : Int32) rL_law_1509 (by decide) ?_
                                                                    refine tq_iadd rL_law_1510 ?_
                                                                    obtain ⟨g300, hf⟩ := tq_chk hf
                                                                    refine tq_sld rL_law_1511 (tq_bi rfl hS g300) ?_
                                                                    refine tq_aloadF_n rL_law_1512 rfl ?_
                                                                    refine tq_iload_n rL_law_1513 rfl ?_
                                                                    refine tq_iconst (2 : Int32) rL_law_1514 (by decide) ?_
                                                                    refine tq_iadd rL_law_1515 ?_
                                                                    obtain ⟨g301, hf⟩ := tq_chk hf
                                                                    refine tq_sld rL_law_1516 (tq_bi rfl hS g301) ?_
                                                                    refine tq_aloadF_n rL_law_1517 rfl ?_
                                                                    refine tq_iload_n rL_law_1518 rfl ?_
                                                                    refine tq_iconst (3 : Int32) rL_law_1519 (by decide) ?_
                                                                    refine tq_iadd rL_law_1520 ?_
                                                                    obtain ⟨g302, hf⟩ := tq_chk hf
                                                                    refine tq_sld rL_law_1521 (tq_bi rfl hS g302) ?_
                                                                    obtain ⟨p303, e303, hf⟩ := Option.bind_eq_some_iff.mp hf
                                                                    refine ty_callVI p303.1 ([.int (S.2 ((a3 + (1 : Int32))).toNatClampNeg), .int (S.2 ((a3 + (2 : Int32))).toNatClampNeg), .int (S.2 ((a3 + (3 : Int32))).toNatClampNeg)]) ([]) rL_law_1522 l_L_146 moX11_shored mvX11_shored h1 rfl rfl (Nat.le_of_ble_eq_true rfl) ⟨rfl, rfl⟩ (CX11_shored h1 e303) ?_
                                                                    refine tq_aload_n rL_law_1525 rfl ?_
                                                                    refine tq_aloadF_n rL_law_1526 rfl ?_
                                                                    refine tq_iload_n rL_law_1527 rfl ?_
                                                                    refine tq_iconst (1 : Int32) rL_law_1528 (by decide) ?_
                                                                    refine tq_iadd rL_law_1529 ?_
                                                                    obtain ⟨g304, hf⟩ := tq_chk hf
                                                                    refine tq_sld rL_law_1530 (tq_bi rfl hS g304) ?_
                                                                    refine tq_aloadF_n rL_law_1531 rfl ?_
                                                                    refine tq_iload_n rL_law_1532 rfl ?_
                                                                    refine tq_iconst (2 : Int32) rL_law_1533 (by decide) ?_
                                                                    refine tq_iadd rL_law_1534 ?_
                                                                    obtain ⟨g305, hf⟩ := tq_chk hf
                                                                    refine tq_sld rL_law_1535 (tq_bi rfl hS g305) ?_
                                                                    refine tq_aloadF_n rL_law_1536 rfl ?_
                                                                    refine tq_iload_n rL_law_1537 rfl ?_
                                                                    refine tq_iconst (3 : Int32) rL_law_1538 (by decide) ?_
                                                                    refine tq_iadd rL_law_1539 ?_
                                                                    obtain ⟨g306, hf⟩ := tq_chk hf
                                                                    refine tq_sld rL_law_1540 (tq_bi rfl hS g306) ?_
                                                                    obtain ⟨p307, e307, hf⟩ := Option.bind_eq_some_iff.mp hf
                                                                    refine ty_callVI p307.1 ([.int (S.2 ((a3 + (1 : Int32))).toNatClampNeg), .int (S.2 ((a3 + (2 : Int32))).toNatClampNeg), .int (S.2 ((a3 + (3 : Int32))).toNatClampNeg)]) ([.int p303.1]) rL_law_1541 l_L_149 moX12_shored mvX12_shored h2 rfl rfl (Nat.le_of_ble_eq_true rfl) ⟨rfl, rfl⟩ (CX12_shored h2 e307) ?_
                                                                    refine tq_icmp_eq rL_law_1544 (fun c308 => ?_) (fun c308 => ?_)
                                                                    · rw [if_pos c308] at hf
                                                                      exact tq_forget _ (tq_le_s (tq_le_s (tq_le_s (tq_le_s tq_le_n)))) (FL_law_j1717L18_x hS h1 h2 hf hk)
                                                                    · rw [if_neg c308] at hf
                                                                      refine tq_iconst (0 : Int32) rL_law_1547 (by decide) ?_
                                                                      refine ty_zret (ty := .boolean) rL_law_1548 rfl rfl rfl ?_
                                                                      have hf := Option.some.inj hf
                                                                      subst hf
                                                                      exact hk
                                                                  · rw [if_neg c299] at hf
                                                                    by_cases c309 : ((S.2 a3.toNatClampNeg) &&& (63 : Int32)) = 32
                                                                    · rw [if_pos c309] at hf
                                                                      refine tq_swIn (tgt := 1549) 1516 rL_law_33 (by rw [c309]; decide) (by rw [c309]; decide) (by rw [c309]; rfl) (by decide) ?_
                                                                      refine tq_aload_n rL_law_1549 rfl ?_
                                                                      refine tq_aloadF_n rL_law_1550 rfl ?_
                                                                      refine tq_iload_n rL_law_1551 rfl ?_
                                                                      refine tq_iconst (1 : Int32) rL_law_1552 (by decide) ?_
                                                                      refine tq_iadd rL_law_1553 ?_
                                                                      obtain ⟨g310, hf⟩ := tq_chk hf
                                                                      refine tq_sld rL_law_1554 (tq_bi rfl hS g310) ?_
                                                                      refine tq_aloadF_n rL_law_1555 rfl ?_
                                                                      refine tq_iload_n rL_law_1556 rfl ?_
                                                                      refine tq_iconst (2 : Int32) rL_law_1557 (by decide) ?_
                                                                      refine tq_iadd rL_law_1558 ?_
                                                                      obtain ⟨g311, hf⟩ := tq_chk hf
                                                                      refine tq_sld rL_law_1559 (tq_bi rfl hS g311) ?_
                                                                      obtain ⟨p312, e312, hf⟩ := Option.bind_eq_some_iff.mp hf
                                                                      refine ty_callVI p312 ([.int (S.2 ((a3 + (1 : Int32))).toNatClampNeg), .int (S.2 ((a3 + (2 : Int32))).toNatClampNeg)]) ([]) rL_law_1560 l_L_150 moX11_streak mvX11_streak h1 rfl rfl (Nat.le_of_ble_eq_true rfl) ⟨rfl, rfl⟩ (CX11_streak h1 e312) ?_
                                                                      refine tq_aload_n rL_law_1563 rfl ?_
                                                                      refine tq_aloadF_n rL_law_1564 rfl ?_
                                                                      refine tq_iload_n rL_law_1565 rfl ?_
                                                                      refine tq_iconst (1 : Int32) rL_law_1566 (by decide) ?_
                                                                      refine tq_iadd rL_law_1567 ?_
                                                                      obtain ⟨g313, hf⟩ := tq_chk hf
                                                                      refine tq_sld rL_law_1568 (tq_bi rfl hS g313) ?_
                                                                      refine tq_aloadF_n rL_law_1569 rfl ?_
                                                                      refine tq_iload_n rL_law_1570 rfl ?_
                                                                      refine tq_iconst (2 : Int32) rL_law_1571 (by decide) ?_
                                                                      refine tq_iadd rL_law_1572 ?_
                                                                      obtain ⟨g314, hf⟩ := tq_chk hf
                                                                      refine tq_sld rL_law_1573 (tq_bi rfl hS g314) ?_
                                                                      obtain ⟨p315, e315, hf⟩ := Option.bind_eq_some_iff.mp hf
                                                                      refine ty_callVI p315.1 ([.int (S.2 ((a3 + (1 : Int32))).toNatClampNeg), .int (S.2 ((a3 + (2 : Int32))).toNatClampNeg)]) ([.int p312]) rL_law_1574 l_L_153 moX12_streak mvX12_streak h2 rfl rfl (Nat.le_of_ble_eq_true rfl) ⟨rfl, rfl⟩ (CX12_streak h2 e315) ?_
                                                                      refine tq_icmp_eq rL_law_1577 (fun c316 => ?_) (fun c316 => ?_)
                                                                      · rw [if_pos c316] at hf
                                                                        exact tq_forget _ (tq_le_s (tq_le_s (tq_le_s (tq_le_s tq_le_n)))) (FL_law_j1717L18_x hS h1 h2 hf hk)
                                                                      · rw [if_neg c316] at hf
                                                                        refine tq_iconst (0 : Int32) rL_law_1580 (by decide) ?_
                                                                        refine ty_zret (ty := .boolean) rL_law_1581 rfl rfl rfl ?_
                                                                        have hf := Option.some.inj hf
                                                                        subst hf
                                                                        exact hk
                                                                    · rw [if_neg c309] at hf
                                                                      by_cases c317 : ((S.2 a3.toNatClampNeg) &&& (63 : Int32)) = 33
                                                                      · rw [if_pos c317] at hf
                                                                        refine tq_swIn (tgt := 1582) 1549 rL_law_33 (by rw [c317]; decide) (by rw [c317]; decide) (by rw [c317]; rfl) (by decide) ?_
                                                                        refine tq_aload_n rL_law_1582 rfl ?_
                                                                        refine tq_aloadF_n rL_law_1583 rfl ?_
                                                                        refine tq_iload_n rL_law_1584 rfl ?_
                                                                        refine tq_iconst (1 : Int32) rL_law_1585 (by decide) ?_
                                                                        refine tq_iadd rL_law_1586 ?_
                                                                        obtain ⟨g318, hf⟩ := tq_chk hf
                                                                        refine tq_sld rL_law_1587 (tq_bi rfl hS g318) ?_
                                                                        refine tq_aloadF_n rL_law_1588 rfl ?_
                                                                        refine tq_iload_n rL_law_1589 rfl ?_
                                                                        refine tq_iconst (2 : Int32) rL_law_1590 (by decide) ?_
                                                                        refine tq_iadd rL_law_1591 ?_
                                                                        obtain ⟨g319, hf⟩ := tq_chk hf
                                                                        refine tq_sld rL_law_1592 (tq_bi rfl hS g319) ?_
                                                                        refine tq_aloadF_n rL_law_1593 rfl ?_
                                                                        refine tq_iload_n rL_law_1594 rfl ?_
                                                                        refine tq_iconst (3 : Int32) rL_law_1595 (by decide) ?_
                                                                        refine tq_iadd rL_law_1596 ?_
                                                                        obtain ⟨g320, hf⟩ := tq_chk hf
                                                                        refine tq_sld rL_law_1597 (tq_bi rfl hS g320) ?_
                                                                        obtain ⟨p321, e321, hf⟩ := Option.bind_eq_some_iff.mp hf
                                                                        refine ty_callVI p321.1 ([.int (S.2 ((a3 + (1 : Int32))).toNatClampNeg), .int (S.2 ((a3 + (2 : Int32))).toNatClampNeg), .int (S.2 ((a3 + (3 : Int32))).toNatClampNeg)]) ([]) rL_law_1598 l_L_154 moX11_within mvX11_within h1 rfl rfl (Nat.le_of_ble_eq_true rfl) ⟨rfl, rfl⟩ (CX11_within h1 e321) ?_
                                                                        refine tq_aload_n rL_law_1601 rfl ?_
                                                                        refine tq_aloadF_n rL_law_1602 rfl ?_
                                                                        refine tq_iload_n rL_law_1603 rfl ?_
                                                                        refine tq_iconst (1 : Int32) rL_law_1604 (by decide) ?_
                                                                        refine tq_iadd rL_law_1605 ?_
                                                                        obtain ⟨g322, hf⟩ := tq_chk hf
                                                                        refine tq_sld rL_law_1606 (tq_bi rfl hS g322) ?_
                                                                        refine tq_aloadF_n rL_law_1607 rfl ?_
                                                                        refine tq_iload_n rL_law_1608 rfl ?_
                                                                        refine tq_iconst (2 : Int32) rL_law_1609 (by decide) ?_
                                                                        refine tq_iadd rL_law_1610 ?_
                                                                        obtain ⟨g323, hf⟩ := tq_chk hf
                                                                        refine tq_sld rL_law_1611 (tq_bi rfl hS g323) ?_
                                                                        refine tq_aloadF_n rL_law_1612 rfl ?_
                                                                        refine tq_iload_n rL_law_1613 rfl ?_
                                                                        refine tq_iconst (3 : Int32) rL_law_1614 (by decide) ?_
                                                                        refine tq_iadd rL_law_1615 ?_
                                                                        obtain ⟨g324, hf⟩ := tq_chk hf
                                                                        refine tq_sld rL_law_1616 (tq_bi rfl hS g324) ?_
                                                                        obtain ⟨p325, e325, hf⟩ := Option.bind_eq_some_iff.mp hf
                                                                        refine ty_callVI p325.1 ([.int (S.2 ((a3 + (1 : Int32))).toNatClampNeg), .int (S.2 ((a3 + (2 : Int32))).toNatClampNeg), .int (S.2 ((a3 + (3 : Int32))).toNatClampNeg)]) ([.int p321.1]) rL_law_1617 l_L_157 moX12_within mvX12_within h2 rfl rfl (Nat.le_of_ble_eq_true rfl) ⟨rfl, rfl⟩ (CX12_within h2 e325) ?_
                                                                        refine tq_icmp_eq rL_law_1620 (fun c326 => ?_) (fun c326 => ?_)
                                                                        · rw [if_pos c326] at hf
                                                                          exact tq_forget _ (tq_le_s (tq_le_s (tq_le_s (tq_le_s tq_le_n)))) (FL_law_j1717L18_x hS h1 h2 hf hk)
                                                                        · rw [if_neg c326] at hf
                                                                          refine tq_iconst (0 : Int32) rL_law_1623 (by decide) ?_
                                                                          refine ty_zret (ty := .boolean) rL_law_1624 rfl rfl rfl ?_
                                                                          have hf := Option.some.inj hf
                                                                          subst hf
                                                                          exact hk
                                                                      · rw [if_neg c317] at hf
                                                                        by_cases c327 : ((S.2 a3.toNatClampNeg) &&& (63 : Int32)) = 34
                                                                        · rw [if_pos c327] at hf
                                                                          refine tq_swIn (tgt := 1625) 1592 rL_law_33 (by rw [c327]; decide) (by rw [c327]; decide) (by rw [c327]; rfl) (by decide) ?_
                                                                          refine tq_aload_n rL_law_1625 rfl ?_
                                                                          refine tq_aloadF_n rL_law_1626 rfl ?_
                                                                          refine tq_iload_n rL_law_1627 rfl ?_
                                                                          refine tq_iconst (1 : Int32) rL_law_1628 (by decide) ?_
                                                                          refine tq_iadd rL_law_1629 ?_
                                                                          obtain ⟨g328, hf⟩ := tq_chk hf
                                                                          refine tq_sld rL_law_1630 (tq_bi rfl hS g328) ?_
                                                                          obtain ⟨p329, e329, hf⟩ := Option.bind_eq_some_iff.mp hf
                                                                          refine ty_callVI p329 ([.int (S.2 ((a3 + (1 : Int32))).toNatClampNeg)]) ([]) rL_law_1631 l_L_158 moX11_deepest mvX11_deepest h1 rfl rfl (Nat.le_of_ble_eq_true rfl) ⟨rfl, rfl⟩ (CX11_deepest h1 e329) ?_
                                                                          refine tq_aload_n rL_law_1634 rfl ?_
                                                                          refine tq_aloadF_n rL_law_1635 rfl ?_
                                                                          refine tq_iload_n rL_law_1636 rfl ?_
                                                                          refine tq_iconst (1 : Int32) rL_law_1637 (by decide) ?_
                                                                          refine tq_iadd rL_law_1638 ?_
                                                                          obtain ⟨g330, hf⟩ := tq_chk hf
                                                                          refine tq_sld rL_law_1639 (tq_bi rfl hS g330) ?_
                                                                          obtain ⟨p331, e331, hf⟩ := Option.bind_eq_some_iff.mp hf
                                                                          refine ty_callVI p331 ([.int (S.2 ((a3 + (1 : Int32))).toNatClampNeg)]) ([.int p329]) rL_law_1640 l_L_161 moX12_deepest mvX12_deepest h2 rfl rfl (Nat.le_of_ble_eq_true rfl) ⟨rfl, rfl⟩ (CX12_deepest h2 e331) ?_
                                                                          refine tq_icmp_eq rL_law_1643 (fun c332 => ?_) (fun c332 => ?_)
                                                                          · rw [if_pos c332] at hf
                                                                            exact tq_forget _ (tq_le_s (tq_le_s (tq_le_s (tq_le_s tq_le_n)))) (FL_law_j1717L18_x hS h1 h2 hf hk)
                                                                          · rw [if_neg c332] at hf
                                                                            refine tq_iconst (0 : Int32) rL_law_1646 (by decide) ?_
                                                                            refine ty_zret (ty := .boolean) rL_law_1647 rfl rfl rfl ?_
                                                                            have hf := Option.some.inj hf
                                                                            subst hf
                                                                            exact hk
                                                                        · rw [if_neg c327] at hf
                                                                          by_cases c333 : ((S.2 a3.toNatClampNeg) &&& (63 : Int32)) = 35
                                                                          · rw [if_pos c333] at hf
                                                                            refine tq_swIn (tgt := 1648) 1615 rL_law_33 (by rw [c333]; decide) (by rw [c333]; decide) (by rw [c333]; rfl) (by decide) ?_
                                                                            refine tq_aload_n rL_law_1648 rfl ?_
                                                                            refine tq_aloadF_n rL_law_1649 rfl ?_
                                                                            refine tq_iload_n rL_law_1650 rfl ?_
                                                                            refine tq_iconst (1 : Int32) rL_law_1651 (by decide) ?_
                                                                            refine tq_iadd rL_law_1652 ?_
                                                                            obtain ⟨g334, hf⟩ := tq_chk hf
                                                                            refine tq_sld rL_law_1653 (tq_bi rfl hS g334) ?_
                                                                            obtain ⟨p335, e335, hf⟩ := Option.bind_eq_some_iff.mp hf
                                                                            refine ty_callVI p335 ([.int (S.2 ((a3 + (1 : Int32))).toNatClampNeg)]) ([]) rL_law_1654 l_L_162 moX11_count mvX11_count h1 rfl rfl (Nat.le_of_ble_eq_true rfl) ⟨rfl, rfl⟩ (CX11_count h1 e335) ?_
                                                                            refine tq_aload_n rL_law_1657 rfl ?_
                                                                            refine tq_aloadF_n rL_law_1658 rfl ?_
                                                                            refine tq_iload_n rL_law_1659 rfl ?_
                                                                            refine tq_iconst (1 : Int32) rL_law_1660 (by decide) ?_
                                                                            refine tq_iadd rL_law_1661 ?_
                                                                            obtain ⟨g336, hf⟩ := tq_chk hf
                                                                            refine tq_sld rL_law_1662 (tq_bi rfl hS g336) ?_
                                                                            obtain ⟨p337, e337, hf⟩ := Option.bind_eq_some_iff.mp hf
                                                                            refine ty_callVI p337 ([.int (S.2 ((a3 + (1 : Int32))).toNatClampNeg)]) ([.int p335]) rL_law_1663 l_L_165 moX12_count mvX12_count h2 rfl rfl (Nat.le_of_ble_eq_true rfl) ⟨rfl, rfl⟩ (CX12_count h2 e337) ?_
                                                                            refine tq_icmp_eq rL_law_1666 (fun c338 => ?_) (fun c338 => ?_)
                                                                            · rw [if_pos c338] at hf
                                                                              exact tq_forget _ (tq_le_s (tq_le_s (tq_le_s (tq_le_s tq_le_n)))) (FL_law_j1717L18_x hS h1 h2 hf hk)
                                                                            · rw [if_neg c338] at hf
                                                                              refine tq_iconst (0 : Int32) rL_law_1669 (by decide) ?_
                                                                              refine ty_zret (ty := .boolean) rL_law_1670 rfl rfl rfl ?_
                                                                              have hf := Option.some.inj hf
                                                                              subst hf
                                                                              exact hk
                                                                          · rw [if_neg c333] at hf
                                                                            by_cases c339 : ((S.2 a3.toNatClampNeg) &&& (63 : Int32)) = 36
                                                                            · rw [if_pos c339] at hf
                                                                              refine tq_swIn (tgt := 1671) 1638 rL_law_33 (by rw [c339]; decide) (by rw [c339]; decide) (by rw [c339]; rfl) (by decide) ?_
                                                                              refine tq_aload_n rL_law_1671 rfl ?_
                                                                              refine tq_aloadF_n rL_law_1672 rfl ?_
                                                                              refine tq_iload_n rL_law_1673 rfl ?_
                                                                              refine tq_iconst (1 : Int32) rL_law_1674 (by decide) ?_
                                                                              refine tq_iadd rL_law_1675 ?_
                                                                              obtain ⟨g340, hf⟩ := tq_chk hf
                                                                              refine tq_sld rL_law_1676 (tq_bi rfl hS g340) ?_
                                                                              obtain ⟨p341, e341, hf⟩ := Option.bind_eq_some_iff.mp hf
                                                                              refine ty_callVI (tq_b p341.1) ([.int (S.2 ((a3 + (1 : Int32))).toNatClampNeg)]) ([]) rL_law_1677 l_L_166 moX11_image mvX11_image h1 rfl rfl (Nat.le_of_ble_eq_true rfl) ⟨rfl, rfl⟩ (CX11_image h1 e341) ?_
                                                                              refine tq_aload_n rL_law_1680 rfl ?_
                                                                              refine tq_aloadF_n rL_law_1681 rfl ?_
                                                                              refine tq_iload_n rL_law_1682 rfl ?_
                                                                              refine tq_iconst (1 : Int32) rL_law_1683 (by decide) ?_
                                                                              refine tq_iadd rL_law_1684 ?_
                                                                              obtain ⟨g342, hf⟩ := tq_chk hf
                                                                              refine tq_sld rL_law_1685 (tq_bi rfl hS g342) ?_
                                                                              obtain ⟨p343, e343, hf⟩ := Option.bind_eq_some_iff.mp hf
                                                                              refine ty_callVI (tq_b p343.1) ([.int (S.2 ((a3 + (1 : Int32))).toNatClampNeg)]) ([.int (tq_b p341.1)]) rL_law_1686 l_L_170 moX12_image mvX12_image h2 rfl rfl (Nat.le_of_ble_eq_true rfl) ⟨rfl, rfl⟩ (CX12_image h2 e343) ?_
                                                                              refine tq_icmp_eq rL_law_1689 (fun c344 => ?_) (fun c344 => ?_)
                                                                              · rw [if_pos c344] at hf
                                                                                exact tq_forget _ (tq_le_s (tq_le_s (tq_le_s (tq_le_s tq_le_n)))) (FL_law_j1717L18_x hS h1 h2 hf hk)
                                                                              · rw [if_neg c344] at hf
                                                                                refine tq_iconst (0 : Int32) rL_law_1692 (by decide) ?_
                                                                                refine ty_zret (ty := .boolean) rL_law_1693 rfl rfl rfl ?_
                                                                                have hf := Option.some.inj hf
                                                                                subst hf
                                                                                exact hk
                                                                            · rw [if_neg c339] at hf
                                                                              by_cases c345 : ((S.2 a3.toNatClampNeg) &&& (63 : Int32)) = 37
                                                                              · rw [if_pos c345] at hf
                                                                                refine tq_swIn (tgt := 1694) 1661 rL_law_33 (by rw [c345]; decide) (by rw [c345]; decide) (by rw [c345]; rfl) (by decide) ?_
                                                                                refine tq_aload_n rL_law_1694 rfl ?_
                                                                                refine tq_aloadF_n rL_law_1695 rfl ?_
                                                                                refine tq_iload_n rL_law_1696 rfl ?_
                                                                                refine tq_iconst (1 : Int32) rL_law_1697 (by decide) ?_
                                                                                refine tq_iadd rL_law_1698 ?_
                                                                                obtain ⟨g346, hf⟩ := tq_chk hf
                                                                                refine tq_sld rL_law_1699 (tq_bi rfl hS g346) ?_
                                                                                obtain ⟨p347, e347, hf⟩ := Option.bind_eq_some_iff.mp hf
                                                                                refine ty_callVI (tq_b p347.1) ([.int (S.2 ((a3 + (1 : Int32))).toNatClampNeg)]) ([]) rL_law_1700 l_L_171 moX11_again mvX11_again h1 rfl rfl (Nat.le_of_ble_eq_true rfl) ⟨rfl, rfl⟩ (CX11_again h1 e347) ?_
                                                                                refine tq_aload_n rL_law_1703 rfl ?_
                                                                                refine tq_aloadF_n rL_law_1704 rfl ?_
                                                                                refine tq_iload_n rL_law_1705 rfl ?_
                                                                                refine tq_iconst (1 : Int32) rL_law_1706 (by decide) ?_
                                                                                refine tq_iadd rL_law_1707 ?_
                                                                                obtain ⟨g348, hf⟩ := tq_chk hf
                                                                                refine tq_sld rL_law_1708 (tq_bi rfl hS g348) ?_
                                                                                obtain ⟨p349, e349, hf⟩ := Option.bind_eq_some_iff.mp hf
                                                                                refine ty_callVI (tq_b p349.1) ([.int (S.2 ((a3 + (1 : Int32))).toNatClampNeg)]) ([.int (tq_b p347.1)]) rL_law_1709 l_L_174 moX12_again mvX12_again h2 rfl rfl (Nat.le_of_ble_eq_true rfl) ⟨rfl, rfl⟩ (CX12_again h2 e349) ?_
                                                                                refine tq_icmp_eq rL_law_1712 (fun c350 => ?_) (fun c350 => ?_)
                                                                                · rw [if_pos c350] at hf
                                                                                  exact tq_forget _ (tq_le_s (tq_le_s (tq_le_s (tq_le_s tq_le_n)))) (FL_law_j1717L18_x hS h1 h2 hf hk)
                                                                                · rw [if_neg c350] at hf
                                                                                  refine tq_iconst (0 : Int32) rL_law_1715 (by decide) ?_
                                                                                  refine ty_zret (ty := .boolean) rL_law_1716 rfl rfl rfl ?_
                                                                                  have hf := Option.some.inj hf
                                                                                  subst hf
                                                                                  exact hk
                                                                              · rw [if_neg c345] at hf
                                                                                have c3o := tq_ni (c := 0) c3 (by decide)
                                                                                have c17o := tq_ni (c := 1) c17 (by decide)
                                                                                have c23o := tq_ni (c := 2) c23 (by decide)
                                                                                have c31o := tq_ni (c := 3) c31 (by decide)
                                                                                have c37o := tq_ni (c := 4) c37 (by decide)
                                                                                have c45o := tq_ni (c := 5) c45 (by decide)
                                                                                have c55o := tq_ni (c := 6) c55 (by decide)
                                                                                have c63o := tq_ni (c := 7) c63 (by decide)
                                                                                have c75o := tq_ni (c := 8) c75 (by decide)
                                                                                have c81o := tq_ni (c := 9) c81 (by decide)
                                                                                have c95o := tq_ni (c := 10) c95 (by decide)
                                                                                have c103o := tq_ni (c := 11) c103 (by decide)
                                                                                have c115o := tq_ni (c := 12) c115 (by decide)
                                                                                have c127o := tq_ni (c := 13) c127 (by decide)
                                                                                have c137o := tq_ni (c := 14) c137 (by decide)
                                                                                have c147o := tq_ni (c := 15) c147 (by decide)
                                                                                have c159o := tq_ni (c := 16) c159 (by decide)
                                                                                have c169o := tq_ni (c := 17) c169 (by decide)
                                                                                have c177o := tq_ni (c := 18) c177 (by decide)
                                                                                have c185o := tq_ni (c := 19) c185 (by decide)
                                                                                have c197o := tq_ni (c := 20) c197 (by decide)
                                                                                have c203o := tq_ni (c := 21) c203 (by decide)
                                                                                have c211o := tq_ni (c := 22) c211 (by decide)
                                                                                have c219o := tq_ni (c := 23) c219 (by decide)
                                                                                have c227o := tq_ni (c := 24) c227 (by decide)
                                                                                have c239o := tq_ni (c := 25) c239 (by decide)
                                                                                have c249o := tq_ni (c := 26) c249 (by decide)
                                                                                have c259o := tq_ni (c := 27) c259 (by decide)
                                                                                have c271o := tq_ni (c := 28) c271 (by decide)
                                                                                have c279o := tq_ni (c := 29) c279 (by decide)
                                                                                have c289o := tq_ni (c := 30) c289 (by decide)
                                                                                have c299o := tq_ni (c := 31) c299 (by decide)
                                                                                have c309o := tq_ni (c := 32) c309 (by decide)
                                                                                have c317o := tq_ni (c := 33) c317 (by decide)
                                                                                have c327o := tq_ni (c := 34) c327 (by decide)
                                                                                have c333o := tq_ni (c := 35) c333 (by decide)
                                                                                have c339o := tq_ni (c := 36) c339 (by decide)
                                                                                have c345o := tq_ni (c := 37) c345 (by decide)
                                                                                refine tq_swOut (tgt := 1717) rL_law_33 (by omega) (by decide) ?_
                                                                                exact tq_forget _ (tq_le_s (tq_le_s (tq_le_s (tq_le_s tq_le_n)))) (FL_law_j1717L18_x hS h1 h2 hf hk)

set_option maxRecDepth 100000 in
set_option maxHeartbeats 8000000 in
theorem CL_law {S : Nat × (Nat → Int32)} {d : Nat} (hS : S.1 < 100000) {I : tq_PI} {L : tq_PL} {out : Bool × tq_PI × tq_PL} (hf : FL_law S I L = some out) : tq_X S mL_law (d + 27) (0, 0) 18 ([.retAddr 0, .ref 0, .ref 136, .int (0 : Int32)]) [] (tq_st I L) (tq_Q (tq_one2 (some (.int (tq_b out.1))) out.2.1 out.2.2)) := by
  have hx0 : tq_sh0 0 = 11 := by decide +kernel
  have hm0 : tq_sh0 136 = 12 := by decide +kernel
  unfold FL_law at hf
  obtain ⟨p351, e351, hf⟩ := Option.bind_eq_some_iff.mp hf
  refine tq_forget _ (tq_le_s (tq_le_s (tq_le_s (tq_le_s tq_le_n)))) ?_
  refine tq_it_elim (P := fun p : Int32 × tq_PI × tq_PL => tq_X S mL_law (d + 27) (0, 0) 18 ([.retAddr 0, .ref 0, .ref 136, .int p.1]) [] (tq_st p.2.1 p.2.2) (tq_Q (tq_one2 (some (.int (tq_b out.1))) out.2.1 out.2.2))) (R := Sum.elim (fun p : tq_PI × tq_PL => tq_X S mL_law (d + 27) (0, 0) 1723 ([tq_u, tq_u, tq_u, tq_u]) [] (tq_st p.1 p.2) (tq_Q (tq_one2 (some (.int (tq_b out.1))) out.2.1 out.2.2))) (fun p : Bool × tq_PI × tq_PL => (tq_one2 (some (.int (tq_b out.1))) out.2.1 out.2.2) (some (.int (tq_b p.1))) p.2.1 p.2.2)) (fun p o hp hk => FL_law_s18_x hS hx0 hm0 hp hk) _ (((0 : Int32), I, L)) _ e351 ?_
  rcases tq_selim hf with ⟨t352, t352q, hf⟩ | ⟨t352, t352q, hf⟩
  · rw [t352q]
    show tq_X _ _ _ _ _ _ _ _ _
    refine tq_iconst (1 : Int32) rL_law_1723 (by decide) ?_
    refine ty_zret (ty := .boolean) rL_law_1724 rfl rfl rfl ?_
    have hf := Option.some.inj hf
    subst hf
    exact ⟨rfl, rfl, rfl⟩
  · rw [t352q]
    have hf := Option.some.inj hf
    subst hf
    exact ⟨rfl, rfl, rfl⟩

