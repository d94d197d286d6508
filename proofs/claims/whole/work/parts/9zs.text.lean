/-! TEXT: lines of hills by the reference. -/
section RH2
variable {I J : tq_PI} {M : tq_PL} {B : Nat → Nat} {n p s w : Nat} {x : Nat × Int}
theorem r_hc_w {S : tq_PI} {q : Nat} (W : WWr S q) (a1 a2 a3 : Int32) : ∃ K, (if a2 ≤ S 136 9 then FX12_hillLine_j74 S M 136 a1 a2 a3 (S 136 9) 136 else FX12_hillLine_j74 S M 136 a1 a2 a3 a2 136) = some K ∧ WWr K q ∧ FDt S K := by
  have j94 : ∀ (T : tq_PI) (b : Int32), FDt S T → ∃ K, FX12_hillLine_j94 T M 136 a1 a2 a3 b 136 = some K ∧ WWr K q ∧ FDt S K := fun T b F => by
    have F2 := F.tr (FDt.up10 (y := b))
    have W2 := W.fd F2
    unfold FX12_hillLine_j94 FX12_hillLine_j120
    rw [if_neg (by rw [W2.1]; decide), r_endl_w W2, obind]
    exact ⟨_, rfl, W2, F2⟩
  have j74 : ∀ b : Int32, ∃ K, FX12_hillLine_j74 S M 136 a1 a2 a3 b 136 = some K ∧ WWr K q ∧ FDt S K := fun b => by
    unfold FX12_hillLine_j74
    split
    · exact j94 _ _ FDt.up9
    · exact j94 _ _ FDt.up9
  split
  · exact j74 _
  · exact j74 _
theorem r_hc {S : tq_PI} {r l : Int} {a b : Nat} (a1 : Int32) (h8 : S 136 8 = 0) (h9 : S 136 9 = zI r) (h10 : S 136 10 = zI l) (hr : -1 ≤ r ∧ r ≤ 7) (hl : -1 ≤ l ∧ l ≤ 5) (ha : a ≤ 7) (hb : b ≤ 5) : (if zI (a : Int) ≤ S 136 9 then FX12_hillLine_j74 S M 136 a1 (zI (a : Int)) (zI (b : Int)) (S 136 9) 136 else FX12_hillLine_j74 S M 136 a1 (zI (a : Int)) (zI (b : Int)) (zI (a : Int)) 136) = FX12_endsLine (tq_up2 (tq_up2 (tq_up2 S 136 9 (zI (if (a : Int) ≤ r then r else a))) 136 10 (zI (if (b : Int) ≤ l then l else b))) 139 (2 + 8 * b + a) (a1 - 2)) M 136 := by
  have ei : (2 : Int32) + (8 : Int32) * zI (b : Int) + zI (a : Int) = zI ((2 + 8 * b + a : Nat) : Int) := by
    rw [show (2 : Int32) = zI 2 from rfl, show (8 : Int32) = zI 8 from rfl, zI_mul, zI_add, zI_add]
    congr 1
  have en : (zI ((2 + 8 * b + a : Nat) : Int)).toNatClampNeg = 2 + 8 * b + a := by rw [zI_cl (by omega), Int.toNat_natCast]
  have x1 : (0 : Int32) ≤ zI ((2 + 8 * b + a : Nat) : Int) ∧ zI ((2 + 8 * b + a : Nat) : Int) < 121 := ⟨by rw [show (0 : Int32) = zI 0 from rfl, zI_le (by omega) (by omega)]; omega, by rw [zI_lit, zI_lt (by omega) (by omega)]; omega⟩
  have j94 : ∀ (T : tq_PI) (c : Int32), T 136 8 = 0 → FX12_hillLine_j94 T M 136 a1 (zI (a : Int)) (zI (b : Int)) c 136 = FX12_endsLine (tq_up2 (tq_up2 T 136 10 c) 139 (2 + 8 * b + a) (a1 - 2)) M 136 := fun T c h => by
    unfold FX12_hillLine_j94 FX12_hillLine_j120
    rw [if_pos (by rw [up_n _ _ (by omega)]; exact h), ei, if_pos x1, g11, en, ob_id]
  have j74 : ∀ (c : Int), FX12_hillLine_j74 S M 136 a1 (zI (a : Int)) (zI (b : Int)) (zI c) 136 = FX12_endsLine (tq_up2 (tq_up2 (tq_up2 S 136 9 (zI c)) 136 10 (zI (if (b : Int) ≤ l then l else b))) 139 (2 + 8 * b + a) (a1 - 2)) M 136 := fun c => by
    have t10 : (tq_up2 S 136 9 (zI c)) 136 10 = zI l := by rw [up_n _ _ (by omega)]; exact h10
    have t8 : (tq_up2 S 136 9 (zI c)) 136 8 = 0 := by rw [up_n _ _ (by omega)]; exact h8
    unfold FX12_hillLine_j74
    by_cases g : (b : Int) ≤ l
    · rw [if_pos (by rw [t10, zI_le (by omega) (by omega)]; exact g), j94 _ _ t8, t10, if_pos g]
    · rw [if_neg (by rw [t10, zI_le (by omega) (by omega)]; exact g), j94 _ _ t8, if_neg g]
  by_cases g : (a : Int) ≤ r
  · rw [if_pos (by rw [h9, zI_le (by omega) (by omega)]; exact g), h9, j74 r, if_pos g]
  · rw [if_neg (by rw [h9, zI_le (by omega) (by omega)]; exact g), j74 a, if_neg g]
theorem nva_b (i : Nat) (hw : w ≤ 4) : nva B n p 0 w i ≤ nhi 0 w i := by
  have l0 : nlo 0 w = 0 := by unfold nlo; rw [if_neg (by omega)]
  unfold nva
  rw [l0]
  split
  · rename_i g; exact g.2
  · omega
theorem r_hillLine {r l : Int} (R : RRd J B n p x) (h9 : J 136 9 = zI r) (h10 : J 136 10 = zI l) (hr : -1 ≤ r ∧ r ≤ 7) (hl : -1 ≤ l ∧ l ≤ 5) : (¬ (tK B n p = 1 ∧ 1 ≤ tW B n p ∧ tW B n p ≤ 6) → ∃ K, FX12_hillLine J M 136 = some K ∧ WWr K (tS B n p) ∧ FRD J K) ∧ (tK B n p = 1 ∧ tW B n p = 1 → (okl B n (tE B n p) 2 ∧ ∃ K, FX12_hillLine J M 136 = some K ∧ RRd K B n (tE B n (pp B n (tE B n p) 2)) (nf B n (tE B n p) 0 5 x 2) ∧ FRD J K ∧ K 139 = (tq_up2 (tq_up2 J 139 0 (zI (nva B n (tE B n p) 0 5 0 : Nat))) 139 1 (zI (nva B n (tE B n p) 0 5 1 : Nat))) 139 ∧ K 136 9 = zI r ∧ K 136 10 = zI l) ∨ ∃ K q, FX12_hillLine J M 136 = some K ∧ erl B n (tE B n p) 2 q ∧ WWr K q ∧ FRD J K) ∧ (tK B n p = 1 ∧ 2 ≤ tW B n p ∧ tW B n p ≤ 6 → ∀ w, w + 2 = tW B n p → (okl B n (tE B n p) 2 ∧ ∃ K, FX12_hillLine J M 136 = some K ∧ RRd K B n (tE B n (pp B n (tE B n p) 2)) (nf B n (tE B n p) 0 w x 2) ∧ FRD J K ∧ K 139 = (tq_up2 J 139 (2 + 8 * nva B n (tE B n p) 0 w 1 + nva B n (tE B n p) 0 w 0) (zI (w : Int))) 139 ∧ K 136 9 = zI (if ((nva B n (tE B n p) 0 w 0 : Nat) : Int) ≤ r then r else (nva B n (tE B n p) 0 w 0 : Nat)) ∧ K 136 10 = zI (if ((nva B n (tE B n p) 0 w 1 : Nat) : Int) ≤ l then l else (nva B n (tE B n p) 0 w 1 : Nat))) ∨ ∃ K q, FX12_hillLine J M 136 = some K ∧ erl B n (tE B n p) 2 q ∧ WWr K q ∧ FRD J K) := by
  obtain ⟨wa, wb⟩ := r_word (M := M) R (a := 1) (b := 6) (by omega) (by omega)
  have up139 : ∀ (S T : tq_PI) (j : Nat) (y : Int32), S 139 = T 139 → (tq_up2 S 139 j y) 139 = (tq_up2 T 139 j y) 139 := fun S T j y hS => by
    funext i
    unfold tq_up2
    rw [hS]
  refine ⟨fun g => ?_, fun g => ?_, fun g w hw => ?_⟩
  · obtain ⟨K, e, W, F⟩ := wb g
    have e' : FX12_wordIn J M 136 (1 : Int32) (6 : Int32) = some (0, K) := e
    obtain ⟨K2, e2, W2, F2⟩ := r_hc_w (M := M) W 0 0 0
    unfold FX12_hillLine
    rw [e', obind, if_neg (show ¬ (0 : Int32) = 1 by decide)]
    dsimp only
    rw [r_numd_w W 0 7, obind]
    dsimp only
    rw [r_numd_w W 0 5, obind]
    exact ⟨K2, e2, W2, F.rd.tr F2.rd⟩
  · obtain ⟨K, e, R1, F⟩ := wa (by omega)
    have e' : FX12_wordIn J M 136 (1 : Int32) (6 : Int32) = some (zI (tW B n p : Nat), K) := e
    unfold FX12_hillLine FX12_hillLine_j120
    rw [e', obind, if_pos (by show zI (tW B n p : Nat) = 1; rw [g.2]; rfl)]
    dsimp only
    rcases r_numI (M := M) (J := K) (B := B) (n := n) (p := tE B n p) (s := 0) (w := 5) (x := x) (i := 0) R1 with ⟨k0, K3, e3, R3, F3⟩ | ⟨k0, K3, e3, W3, F3⟩
    · have e3' : FX12_numbered K M 136 (2 : Int32) (8 : Int32) = some (zI (nva B n (tE B n p) 0 5 0 : Nat), K3) := e3
      have Fa : FDt K3 (tq_up2 K3 139 0 (zI (nva B n (tE B n p) 0 5 0 : Nat))) := FDt.up
      rw [e3', obind, if_pos i0_121, g11, e0n, e1n]
      dsimp only
      rcases r_numI (M := M) (i := 1) (R3.fd Fa) with ⟨k1, K4, e4, R4, F4⟩ | ⟨k1, K4, e4, W4, F4⟩
      · have e4' : FX12_numbered (tq_up2 K3 139 0 (zI (nva B n (tE B n p) 0 5 0 : Nat))) M 136 (2 : Int32) (6 : Int32) = some (zI (nva B n (tE B n p) 0 5 1 : Nat), K4) := e4
        have Fb : FDt K4 (tq_up2 K4 139 1 (zI (nva B n (tE B n p) 0 5 1 : Nat))) := FDt.up
        rw [e4', obind, if_pos i1_121, ob_id]
        have FF := (((F.rd.tr F3.rd).tr Fa.rd).tr F4.rd).tr Fb.rd
        rcases r_fin (M := M) (p := tE B n p) (m := 2) (fun j hj => by
          rcases (by omega : j = 0 ∨ j = 1) with rfl | rfl
          · exact k0
          · exact k1) (R4.fd Fb) with ⟨ok, K6, e6, R6, F6⟩ | ⟨K6, q, e6, er, W6, F6⟩
        · refine Or.inl ⟨ok, K6, e6, R6, FF.tr F6.rd, ?_, ?_, ?_⟩
          · rw [F6.r139]
            exact up139 _ _ _ _ (by rw [F4.r139]; exact up139 _ _ _ _ (by rw [F3.r139, F.r139]))
          · rw [F6 _ _ (by omega) (by omega), up_n _ _ (by omega), F4 _ _ (by omega) (by omega), up_n _ _ (by omega), F3 _ _ (by omega) (by omega), F _ _ (by omega) (by omega)]
            exact h9
          · rw [F6 _ _ (by omega) (by omega), up_n _ _ (by omega), F4 _ _ (by omega) (by omega), up_n _ _ (by omega), F3 _ _ (by omega) (by omega), F _ _ (by omega) (by omega)]
            exact h10
        · exact Or.inr ⟨K6, q, e6, er, W6, FF.tr F6.rd⟩
      · have e4' : FX12_numbered (tq_up2 K3 139 0 (zI (nva B n (tE B n p) 0 5 0 : Nat))) M 136 (2 : Int32) (6 : Int32) = some (zI (nlo 0 5 : Nat), K4) := e4
        have Fb : FDt K4 (tq_up2 K4 139 1 (zI (nlo 0 5 : Nat))) := FDt.up
        rw [e4', obind, if_pos i1_121, ob_id, r_endl_w (W4.fd Fb)]
        exact Or.inr ⟨_, _, rfl, erl_at (by omega) (fun j hj => by
          rcases (by omega : j = 0) with rfl
          exact k0) k1, W4.fd Fb, (((F.rd.tr F3.rd).tr Fa.rd).tr F4.rd).tr Fb.rd⟩
    · have e3' : FX12_numbered K M 136 (2 : Int32) (8 : Int32) = some (zI (nlo 0 5 : Nat), K3) := e3
      have Fa : FDt K3 (tq_up2 K3 139 0 (zI (nlo 0 5 : Nat))) := FDt.up
      have Fb : FDt (tq_up2 K3 139 0 (zI (nlo 0 5 : Nat))) (tq_up2 (tq_up2 K3 139 0 (zI (nlo 0 5 : Nat))) 139 1 2) := FDt.up
      rw [e3', obind, if_pos i0_121, g11, e0n, e1n]
      dsimp only
      rw [r_numd_w (W3.fd Fa) 2 6, obind, if_pos i1_121, ob_id]
      dsimp only
      rw [r_endl_w ((W3.fd Fa).fd Fb)]
      exact Or.inr ⟨_, _, rfl, erl_at (by omega) (fun j hj => by omega) k0, (W3.fd Fa).fd Fb, ((F.rd.tr F3.rd).tr Fa.rd).tr Fb.rd⟩
  · obtain ⟨K, e, R1, F⟩ := wa (by omega)
    have e' : FX12_wordIn J M 136 (1 : Int32) (6 : Int32) = some (zI (tW B n p : Nat), K) := e
    have w4 : w ≤ 4 := by omega
    have l0 : nlo 0 w = 0 := by unfold nlo; rw [if_neg (by omega)]
    have h0 : nhi 0 w 0 = 7 := by unfold nhi; rw [if_neg (by omega), if_neg (by omega), if_neg (by omega), if_neg (by omega), if_pos rfl]
    have h1 : nhi 0 w 1 = 5 := by unfold nhi; rw [if_neg (by omega), if_neg (by omega), if_neg (by omega), if_neg (by omega), if_neg (by omega)]
    have b0 := nva_b (B := B) (n := n) (p := tE B n p) 0 w4
    have b1 := nva_b (B := B) (n := n) (p := tE B n p) 1 w4
    rw [h0] at b0
    rw [h1] at b1
    have ew : zI (tW B n p : Nat) - (2 : Int32) = zI (w : Int) := by rw [← hw, show (2 : Int32) = zI 2 from rfl, zI_sub]; congr 1; omega
    unfold FX12_hillLine
    rw [e', obind, if_neg (by show ¬ zI (tW B n p : Nat) = 1; rw [zI_lit, zI_eq (by omega) (by omega)]; omega)]
    dsimp only
    rcases r_numI (M := M) (J := K) (B := B) (n := n) (p := tE B n p) (s := 0) (w := w) (x := x) (i := 0) R1 with ⟨k0, K3, e3, R3, F3⟩ | ⟨k0, K3, e3, W3, F3⟩
    · rw [l0, h0] at e3
      have e3' : FX12_numbered K M 136 (0 : Int32) (7 : Int32) = some (zI (nva B n (tE B n p) 0 w 0 : Nat), K3) := e3
      rw [e3', obind]
      dsimp only
      rcases r_numI (M := M) (i := 1) R3 with ⟨k1, K4, e4, R4, F4⟩ | ⟨k1, K4, e4, W4, F4⟩
      · rw [l0, h1] at e4
        have e4' : FX12_numbered K3 M 136 (0 : Int32) (5 : Int32) = some (zI (nva B n (tE B n p) 0 w 1 : Nat), K4) := e4
        have k9 : K4 136 9 = zI r := by rw [F4 _ _ (by omega) (by omega), F3 _ _ (by omega) (by omega), F _ _ (by omega) (by omega)]; exact h9
        have k10 : K4 136 10 = zI l := by rw [F4 _ _ (by omega) (by omega), F3 _ _ (by omega) (by omega), F _ _ (by omega) (by omega)]; exact h10
        have hc := r_hc (M := M) (S := K4) (zI (tW B n p : Nat)) R4.2.2.2.1 k9 k10 hr hl b0 b1
        rw [ew] at hc
        rw [e4', obind]
        dsimp only
        rw [hc]
        obtain ⟨X, hX⟩ : ∃ X, X = tq_up2 (tq_up2 (tq_up2 K4 136 9 (zI (if ((nva B n (tE B n p) 0 w 0 : Nat) : Int) ≤ r then r else (nva B n (tE B n p) 0 w 0 : Nat)))) 136 10 (zI (if ((nva B n (tE B n p) 0 w 1 : Nat) : Int) ≤ l then l else (nva B n (tE B n p) 0 w 1 : Nat)))) 139 (2 + 8 * nva B n (tE B n p) 0 w 1 + nva B n (tE B n p) 0 w 0) (zI (w : Int)) := ⟨_, rfl⟩
        have Fb : FDt K4 X := by rw [hX]; exact (FDt.up9.tr FDt.up10).tr FDt.up
        have x9 : X 136 9 = zI (if ((nva B n (tE B n p) 0 w 0 : Nat) : Int) ≤ r then r else (nva B n (tE B n p) 0 w 0 : Nat)) := by rw [hX, up_n _ _ (by omega), up_n _ _ (by omega), up_s]
        have x10 : X 136 10 = zI (if ((nva B n (tE B n p) 0 w 1 : Nat) : Int) ≤ l then l else (nva B n (tE B n p) 0 w 1 : Nat)) := by rw [hX, up_n _ _ (by omega), up_s]
        have x139 : X 139 = (tq_up2 J 139 (2 + 8 * nva B n (tE B n p) 0 w 1 + nva B n (tE B n p) 0 w 0) (zI (w : Int))) 139 := by
          rw [hX]
          exact up139 _ _ _ _ (by rw [up_row (by omega), up_row (by omega), F4.r139, F3.r139, F.r139])
        rw [← hX]
        have FF := ((F.rd.tr F3.rd).tr F4.rd).tr Fb.rd
        rcases r_fin (M := M) (p := tE B n p) (m := 2) (fun j hj => by
          rcases (by omega : j = 0 ∨ j = 1) with rfl | rfl
          · exact k0
          · exact k1) (R4.fd Fb) with ⟨ok, K6, e6, R6, F6⟩ | ⟨K6, q, e6, er, W6, F6⟩
        · refine Or.inl ⟨ok, K6, e6, R6, FF.tr F6.rd, ?_, ?_, ?_⟩
          · rw [F6.r139]; exact x139
          · rw [F6 _ _ (by omega) (by omega)]; exact x9
          · rw [F6 _ _ (by omega) (by omega)]; exact x10
        · exact Or.inr ⟨K6, q, e6, er, W6, FF.tr F6.rd⟩
      · rw [l0, h1] at e4
        have e4' : FX12_numbered K3 M 136 (0 : Int32) (5 : Int32) = some (zI ((0 : Nat) : Int), K4) := e4
        obtain ⟨K5, e5, W5, F5⟩ := r_hc_w (M := M) W4 (zI (tW B n p : Nat)) (zI (nva B n (tE B n p) 0 w 0 : Nat)) (zI ((0 : Nat) : Int))
        rw [e4', obind]
        dsimp only
        rw [e5]
        exact Or.inr ⟨_, _, rfl, erl_at (by omega) (fun j hj => by
          rcases (by omega : j = 0) with rfl
          exact k0) k1, W5, ((F.rd.tr F3.rd).tr F4.rd).tr F5.rd⟩
    · rw [l0, h0] at e3
      have e3' : FX12_numbered K M 136 (0 : Int32) (7 : Int32) = some (zI ((0 : Nat) : Int), K3) := e3
      obtain ⟨K5, e5, W5, F5⟩ := r_hc_w (M := M) W3 (zI (tW B n p : Nat)) (zI ((0 : Nat) : Int)) 0
      rw [e3', obind]
      dsimp only
      rw [r_numd_w W3 0 5, obind]
      dsimp only
      rw [e5]
      exact Or.inr ⟨_, _, rfl, erl_at (by omega) (fun j hj => by omega) k0, W5, (F.rd.tr F3.rd).tr F5.rd⟩
end RH2
