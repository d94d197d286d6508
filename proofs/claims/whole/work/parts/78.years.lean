/-! YEARS: what deeds do, by the class and by the reference. -/
def HS (L : tq_PL) (a : Nat) (K : Nat → Nat) : Prop := (∀ p, K p ≤ 4) ∧ bb (L a 6) = (fun p => decide (K p = 1)) ∧ bb (L a 7) = (fun p => decide (K p = 2)) ∧ bb (L a 8) = (fun p => decide (K p = 3)) ∧ bb (L a 9) = (fun p => decide (K p = 4))
def FK (a : Nat) (L M : tq_PL) : Prop := ∀ b j, (b ≠ a ∨ j < 6) → M b j = L b j
theorem FK.rf {a : Nat} {L : tq_PL} : FK a L L := fun _ _ _ => rfl
theorem FK.tr {a : Nat} {L M N : tq_PL} (h : FK a L M) (k : FK a M N) : FK a L N := fun b j q => (k b j q).trans (h b j q)
theorem FK.fp {a : Nat} {L M : tq_PL} (h : FK a L M) (q : ¬ psl a) : FP L M := fun b p => funext fun j => h b j (Or.inl (fun e => q (e ▸ p)))
theorem HC.hs {I : tq_PI} {L : tq_PL} {a w h : Nat} {K : Nat → Nat} (H : HC I L a w h K) : HS L a K := ⟨H.le, H.m1, H.m2, H.m3, H.m4⟩
theorem HC.upd {I : tq_PI} {L M : tq_PL} {a w h : Nat} {K Q : Nat → Nat} (H : HC I L a w h K) (F : FK a L M) (S : HS M a Q) (z : ∀ p, ar w h p = false → Q p = 0) : HC I M a w h Q := ⟨H.1, H.2.1, H.k, S.1, z, by rw [F _ _ (Or.inr (by omega))]; exact H.area, by rw [F _ _ (Or.inr (by omega))]; exact H.west, by rw [F _ _ (Or.inr (by omega))]; exact H.east, by rw [F _ _ (Or.inr (by omega))]; exact H.bot, S.2.1, S.2.2.1, S.2.2.2.1, S.2.2.2.2⟩
theorem c_keep (I : tq_PI) {L : tq_PL} {a : Nat} {K : Nat → Nat} (S : HS L a K) (x : Int64) : FK a L (FX3_keepOnly I L a x) ∧ HS (FX3_keepOnly I L a x) a (fun p => if bb x p then K p else 0) := by
  unfold FX3_keepOnly
  refine ⟨fun b j q => ?_, fun p => ?_, ?_, ?_, ?_, ?_⟩
  · rw [up_n _ _ (by omega), up_n _ _ (by omega), up_n _ _ (by omega), up_n _ _ (by omega)]
  · dsimp only
    have := S.1 p
    split <;> omega
  · rw [up_n _ _ (by omega), up_n _ _ (by omega), up_n _ _ (by omega), up_s]
    funext p
    rw [bb_and, S.2.1]
    by_cases e : bb x p = true <;> simp [e]
  · rw [up_n _ _ (by omega), up_n _ _ (by omega), up_s, up_n _ _ (by omega)]
    funext p
    rw [bb_and, S.2.2.1]
    by_cases e : bb x p = true <;> simp [e]
  · rw [up_n _ _ (by omega), up_s, up_n _ _ (by omega), up_n _ _ (by omega)]
    funext p
    rw [bb_and, S.2.2.2.1]
    by_cases e : bb x p = true <;> simp [e]
  · rw [up_s, up_n _ _ (by omega), up_n _ _ (by omega), up_n _ _ (by omega)]
    funext p
    rw [bb_and, S.2.2.2.2]
    by_cases e : bb x p = true <;> simp [e]
theorem HS_big {L : tq_PL} {a : Nat} {K : Nat → Nat} (S : HS L a K) {p : Nat} (hp : 64 ≤ p) : K p = 0 := by
  have h0 := S.1 p
  have h1 := congrFun S.2.1 p
  have h2 := congrFun S.2.2.1 p
  have h3 := congrFun S.2.2.2.1 p
  have h4 := congrFun S.2.2.2.2 p
  rw [bb_big hp] at h1 h2 h3 h4
  simp only [Bool.false_eq, decide_eq_false_iff_not] at h1 h2 h3 h4
  omega
theorem c_put (I : tq_PI) {L : tq_PL} {a v : Nat} {K : Nat → Nat} (S : HS L a K) (hv : v ≤ 4) (y : Int64) : FK a L (FX3_put I L a (zI (v : Int)) y) ∧ HS (FX3_put I L a (zI (v : Int)) y) a (fun p => if bb y p then v else K p) := by
  obtain ⟨F, T⟩ := c_keep I S (y ^^^ (-1))
  have eT : (fun p => if bb (y ^^^ (-1)) p then K p else 0) = fun p => if bb y p then 0 else K p := funext fun p => by
    rw [bb_not]
    by_cases q : p < 64
    · by_cases e : bb y p = true <;> simp [q, e]
    · rw [HS_big S (by omega)]
      by_cases e : bb y p = true <;> simp [e]
  rw [eT] at T
  unfold FX3_put
  rw [zlet]
  generalize FX3_keepOnly I L a (y ^^^ (-1)) = M at *
  have e1 : ∀ n : Nat, n ≤ 4 → ((zI (v : Int) = (OfNat.ofNat n : Int32)) = (v = n)) := fun n hn => by
    rw [zI_lit, zI_eq (by omega) (by constructor <;> (have : (OfNat.ofNat n : Int) = (n : Int) := rfl; omega))]
    apply propext
    have : (OfNat.ofNat n : Int) = (n : Int) := rfl
    omega
  have e11 := e1 1 (by omega)
  have e12 := e1 2 (by omega)
  have e13 := e1 3 (by omega)
  have e14 := e1 4 (by omega)
  simp only [e11, e12, e13, e14]
  obtain ⟨t0, t1, t2, t3, t4⟩ := T
  rcases (by omega : v = 0 ∨ v = 1 ∨ v = 2 ∨ v = 3 ∨ v = 4) with rfl | rfl | rfl | rfl | rfl
  · simp only [show ¬ (0 : Nat) = 1 by omega, show ¬ (0 : Nat) = 2 by omega, show ¬ (0 : Nat) = 3 by omega, show ¬ (0 : Nat) = 4 by omega, if_false]
    exact ⟨F, t0, t1, t2, t3, t4⟩
  · simp only [if_true]
    refine ⟨fun b j q => by rw [up_n _ _ (by omega)]; exact F b j q, fun p => ?_, ?_, ?_, ?_, ?_⟩
    · dsimp only; have := S.1 p; split <;> omega
    · rw [up_s]; funext p; rw [bb_or, t1]; by_cases e : bb y p = true <;> simp [e]
    · rw [up_n _ _ (by omega), t2]; funext p; by_cases e : bb y p = true <;> simp [e]
    · rw [up_n _ _ (by omega), t3]; funext p; by_cases e : bb y p = true <;> simp [e]
    · rw [up_n _ _ (by omega), t4]; funext p; by_cases e : bb y p = true <;> simp [e]
  · simp only [show ¬ (2 : Nat) = 1 by omega, if_false, if_true]
    refine ⟨fun b j q => by rw [up_n _ _ (by omega)]; exact F b j q, fun p => ?_, ?_, ?_, ?_, ?_⟩
    · dsimp only; have := S.1 p; split <;> omega
    · rw [up_n _ _ (by omega), t1]; funext p; by_cases e : bb y p = true <;> simp [e]
    · rw [up_s]; funext p; rw [bb_or, t2]; by_cases e : bb y p = true <;> simp [e]
    · rw [up_n _ _ (by omega), t3]; funext p; by_cases e : bb y p = true <;> simp [e]
    · rw [up_n _ _ (by omega), t4]; funext p; by_cases e : bb y p = true <;> simp [e]
  · simp only [show ¬ (3 : Nat) = 1 by omega, show ¬ (3 : Nat) = 2 by omega, if_false, if_true]
    refine ⟨fun b j q => by rw [up_n _ _ (by omega)]; exact F b j q, fun p => ?_, ?_, ?_, ?_, ?_⟩
    · dsimp only; have := S.1 p; split <;> omega
    · rw [up_n _ _ (by omega), t1]; funext p; by_cases e : bb y p = true <;> simp [e]
    · rw [up_n _ _ (by omega), t2]; funext p; by_cases e : bb y p = true <;> simp [e]
    · rw [up_s]; funext p; rw [bb_or, t3]; by_cases e : bb y p = true <;> simp [e]
    · rw [up_n _ _ (by omega), t4]; funext p; by_cases e : bb y p = true <;> simp [e]
  · simp only [show ¬ (4 : Nat) = 1 by omega, show ¬ (4 : Nat) = 2 by omega, show ¬ (4 : Nat) = 3 by omega, if_false, if_true]
    refine ⟨fun b j q => by rw [up_n _ _ (by omega)]; exact F b j q, fun p => ?_, ?_, ?_, ?_, ?_⟩
    · dsimp only; have := S.1 p; split <;> omega
    · rw [up_n _ _ (by omega), t1]; funext p; by_cases e : bb y p = true <;> simp [e]
    · rw [up_n _ _ (by omega), t2]; funext p; by_cases e : bb y p = true <;> simp [e]
    · rw [up_n _ _ (by omega), t3]; funext p; by_cases e : bb y p = true <;> simp [e]
    · rw [up_s]; funext p; rw [bb_or, t4]; by_cases e : bb y p = true <;> simp [e]
/-! the state of a year -/
abbrev Yst : Type := (Nat → Nat) × (Nat → Nat)
def vup (v : Nat → Nat) (j d : Nat) (i : Nat) : Nat := if i = j then v j + d else v i
noncomputable def thk (w h : Nat) (M : Nat → Nat) : Int := @dite Int (∃ r, Few w h M 0 (edg w h 1) r) (Classical.propDecidable _) (fun q => Classical.choose q) (fun _ => -1)
theorem thk_eq {w h : Nat} {M : Nat → Nat} {r : Int} (f : Few w h M 0 (edg w h 1) r) : thk w h M = r := by
  unfold thk
  rw [dif_pos ⟨r, f⟩]
  exact Few_one (Classical.choose_spec (⟨r, f⟩ : ∃ r, Few w h M 0 (edg w h 1) r)) f
noncomputable def dkn (w h : Nat) (x : Yst) (k : Int) : Yst := (x.1, vup x.2 5 (if thk w h x.1 ≠ -1 ∧ thk w h x.1 ≤ k then 1 else 0))
def dpr (x : Yst) (p : Nat) : Yst := (kup x.1 p 4, x.2)
def dct (h : Nat) (x : Yst) (s p : Nat) : Yst := (kst h (kup x.1 p 0), vup (vup (vup x.2 s (wor (x.1 p))) (2 + s) (blo (x.1 p))) 4 (los h x.1 p))
def SC (I : tq_PI) (L : tq_PL) (w h : Nat) (x : Yst) : Prop := HC I L 44 w h x.1 ∧ ∀ j, j < 6 → I 43 (1 + j) = zI (x.2 j : Nat)
theorem rg_43_0 : tq_rg 43 0 = 44 := by decide +kernel
section YC
variable {I : tq_PI} {L : tq_PL} {w h : Nat} {x : Yst}
theorem c_prop_f (C : SC I L w h x) {y : Int64} (hy : ∀ p, bb y p = true → air w h x.1 p = false) : FX8_shoreUp I L 43 y = (false, L) := by
  unfold FX8_shoreUp
  rw [zlet, rg_43_0, if_pos]
  rw [lgc]
  refine bb_meet.2 fun p h1 h2 => ?_
  rw [c_air C.1, hy p h2] at h1
  cases h1
theorem c_prop_t (C : SC I L w h x) {y : Int64} {p : Nat} (hy : bb y = fun q => decide (q = p)) (ha : air w h x.1 p = true) : ∃ M, FX8_shoreUp I L 43 y = (true, M) ∧ FK 44 L M ∧ SC I M w h (dpr x p) := by
  obtain ⟨F, T⟩ := c_put I C.1.hs (v := 4) (by omega) y
  refine ⟨FX3_put I L 44 4 y, ?_, F, ?_, C.2⟩
  · unfold FX8_shoreUp
    rw [zlet, rg_43_0, if_neg, zlet]
    rw [lgc, bb_hit hy, c_air C.1, ha]
    simp
  · have eT : (fun q => if bb y q then 4 else x.1 q) = kup x.1 p 4 := funext fun q => by
      rw [hy]
      unfold kup
      by_cases r : q = p <;> simp [r]
    rw [eT] at T
    have := C.1.upd F T (kup_z C.1.z (Or.inr (by simp only [air, Bool.and_eq_true] at ha; exact ha.1)))
    exact this
theorem c_strike_f (C : SC I L w h x) {s : Nat} (hs : s < 2) {y : Int64} (hy : ∀ p, bb y p = true → cut w h x.1 s p = false) : FX8_strike I L 43 (zI (s : Int)) y = some (false, I, L) := by
  obtain ⟨c, ec, hc⟩ := c_cut C.1 hs (c_sol C.1) (sb_rf _) C.1.z
  unfold FX8_strike
  rw [zlet, rg_43_0, ec, obind, if_pos]
  rw [lgc]
  refine bb_meet.2 fun p h1 h2 => ?_
  rw [hc, hy p h2] at h1
  cases h1
theorem c_strike_t (C : SC I L w h x) {s : Nat} (hs : s < 2) {y : Int64} {p : Nat} (hy : bb y = fun q => decide (q = p)) (hc : cut w h x.1 s p = true) : ∃ J M, FX8_strike I L 43 (zI (s : Int)) y = some (true, J, M) ∧ FC 43 I J ∧ FK 44 L M ∧ SC J M w h (dct h x s p) ∧ ∀ j, 7 ≤ j → J 43 j = I 43 j := by
  obtain ⟨c, ec, hcc⟩ := c_cut C.1 hs (c_sol C.1) (sb_rf _) C.1.z
  have ap := cut_ar C.1.z hc
  have p64 : p < 64 := by have := ar_lt C.1.k.2.2.2 ap; omega
  have j99 : ∀ J : tq_PI, FC 43 I J → ∃ M, FX8_strike_j99 J L 43 y = some (true, tq_up2 J 43 5 (J 43 5 + zI (los h x.1 p : Nat)), M) ∧ FK 44 L M ∧ HS M 44 (kst h (kup x.1 p 0)) := fun J FJ => by
    have HJ := C.1.fi FJ (by omega)
    obtain ⟨z, ez, hz, hn⟩ := c_fall HJ (bb_wo (c_sol HJ) hy) (kup_z HJ.z (Or.inl rfl))
    obtain ⟨F, T⟩ := c_keep (tq_up2 J 43 5 (J 43 5 + zI (los h x.1 p : Nat))) C.1.hs z
    refine ⟨_, ?_, F, ?_⟩
    · unfold FX8_strike_j99
      simp only [zlet, rg_43_0, ez, obind, hn]
      rfl
    · have eT : (fun q => if bb z q then x.1 q else 0) = kst h (kup x.1 p 0) := funext fun q => by
        rw [hz, sol_kst]
        unfold kst
        cases e : stl h (sol (kup x.1 p 0)) q
        · simp
        · have := stl_sub e
          rw [sol_up0] at this
          by_cases r : q = p
          · simp [r] at this
          · simp [kup, r]
      rw [eT] at T
      exact T
  have kz : ∀ q, ar w h q = false → kst h (kup x.1 p 0) q = 0 := fun q hq => by
    unfold kst
    split
    · exact kup_z C.1.z (Or.inl rfl) q hq
    · rfl
  have nz : ¬ lg_cmp (c &&& y) 0 = 0 := by
    rw [lgc, bb_hit hy, hcc, hc]
    simp
  have cv := C.2
  unfold FX8_strike
  simp only [zlet, rg_43_0, ec, obind]
  rw [if_neg nz]
  rcases (by omega : s = 0 ∨ s = 1) with rfl | rfl
  · rw [if_pos (show zI ((0 : Nat) : Int) = 0 from rfl)]
    rw [c_worth C.1, hy, ws_one _ _ p64]
    have F1 : FC 43 I (tq_up2 I 43 1 (I 43 1 + zI (wor (x.1 p) : Nat))) := FC.up
    rw [c_blows (C.1.fi F1 (by omega)), hy, ws_one _ _ p64]
    obtain ⟨M, eM, FM, TM⟩ := j99 (tq_up2 (tq_up2 I 43 1 (I 43 1 + zI (wor (x.1 p) : Nat))) 43 3 (tq_up2 I 43 1 (I 43 1 + zI (wor (x.1 p) : Nat)) 43 3 + zI (blo (x.1 p) : Nat))) (F1.tr FC.up)
    refine ⟨_, M, eM, (F1.tr FC.up).tr FC.up, FM, ⟨?_, fun j hj => ?_⟩, fun j hj => ?_⟩
    · exact ((C.1.upd FM TM kz).fi ((F1.tr FC.up).tr FC.up) (by omega))
    · have c0 := cv 0 (by omega)
      have c2 := cv 2 (by omega)
      have c4 := cv 4 (by omega)
      have cj := cv j hj
      simp only [Nat.add_zero, show 1 + 2 = 3 from rfl, show 1 + 4 = 5 from rfl] at c0 c2 c4
      unfold dct vup
      rcases (by omega : j = 0 ∨ j = 1 ∨ j = 2 ∨ j = 3 ∨ j = 4 ∨ j = 5) with rfl | rfl | rfl | rfl | rfl | rfl
      · rw [up_n _ _ (by omega), up_n _ _ (by omega), up_s, c0, zI_add]; rfl
      · rw [up_n _ _ (by omega), up_n _ _ (by omega), up_n _ _ (by omega), cj]; rfl
      · rw [up_n _ _ (by omega), up_s, up_n _ _ (by omega), c2, zI_add]; rfl
      · rw [up_n _ _ (by omega), up_n _ _ (by omega), up_n _ _ (by omega), cj]; rfl
      · rw [up_s, up_n _ _ (by omega), up_n _ _ (by omega), c4, zI_add]; rfl
      · rw [up_n _ _ (by omega), up_n _ _ (by omega), up_n _ _ (by omega), cj]; rfl
    · rw [up_n _ _ (by omega), up_n _ _ (by omega), up_n _ _ (by omega)]
  · rw [if_neg (show ¬ zI ((1 : Nat) : Int) = 0 by decide)]
    rw [c_worth C.1, hy, ws_one _ _ p64]
    have F1 : FC 43 I (tq_up2 I 43 2 (I 43 2 + zI (wor (x.1 p) : Nat))) := FC.up
    rw [c_blows (C.1.fi F1 (by omega)), hy, ws_one _ _ p64]
    obtain ⟨M, eM, FM, TM⟩ := j99 (tq_up2 (tq_up2 I 43 2 (I 43 2 + zI (wor (x.1 p) : Nat))) 43 4 (tq_up2 I 43 2 (I 43 2 + zI (wor (x.1 p) : Nat)) 43 4 + zI (blo (x.1 p) : Nat))) (F1.tr FC.up)
    refine ⟨_, M, eM, (F1.tr FC.up).tr FC.up, FM, ⟨?_, fun j hj => ?_⟩, fun j hj => ?_⟩
    · exact ((C.1.upd FM TM kz).fi ((F1.tr FC.up).tr FC.up) (by omega))
    · have c0 := cv 1 (by omega)
      have c2 := cv 3 (by omega)
      have c4 := cv 4 (by omega)
      have cj := cv j hj
      simp only [show 1 + 1 = 2 from rfl, show 1 + 3 = 4 from rfl, show 1 + 4 = 5 from rfl] at c0 c2 c4
      unfold dct vup
      rcases (by omega : j = 0 ∨ j = 1 ∨ j = 2 ∨ j = 3 ∨ j = 4 ∨ j = 5) with rfl | rfl | rfl | rfl | rfl | rfl
      · rw [up_n _ _ (by omega), up_n _ _ (by omega), up_n _ _ (by omega), cj]; rfl
      · rw [up_n _ _ (by omega), up_n _ _ (by omega), up_s, c0, zI_add]; rfl
      · rw [up_n _ _ (by omega), up_n _ _ (by omega), up_n _ _ (by omega), cj]; rfl
      · rw [up_n _ _ (by omega), up_s, up_n _ _ (by omega), c2, zI_add]; rfl
      · rw [up_s, up_n _ _ (by omega), up_n _ _ (by omega), c4, zI_add]; rfl
      · rw [up_n _ _ (by omega), up_n _ _ (by omega), up_n _ _ (by omega), cj]; rfl
    · rw [up_n _ _ (by omega), up_n _ _ (by omega), up_n _ _ (by omega)]
end YC
