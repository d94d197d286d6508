/-! THE CLAIM OUT OF ONE WALK OF THE LAW'S BODY. Your part is whole_start (and what it stands on); all else here is the same for every law, but numbers. -/
def R_law : String := "TwoQuarriesLaw"
def lw_P (b : Addr) (xs : List Int32) (args : Array Value) (s : State) : Prop := args = #[.ref b] ∧ s.IntsAt b xs ∧ xs.length ≤ 3072 ∧ (Jvm.Cond.and given_1 narrow_1).before args s = true
def lw_Q (_ : Array Value) (s : State) (o : Outcome) (t : State) : Prop := o = .returned (some (.int 1)) ∧ Framed s o t [] 600000 7302250
def lw_Z (below : List Frame) (a : Array Value) (s : State) : State → Prop := fun t => ∃ o, t.status = .running ∧ Ended t below o ∧ lw_Q a s o t
/-- the law's own end, with 1 on the stack, nothing written that was there before, its room as the claim has it -/
theorem lw_ret {p : Program} {l : Launch} {e : Env} {s : State} {m : MethodId} {below : List Frame} {meth : Method} {c : Code} {b : Nat} (hx : p.tables.exec = Jvm.exec) (hb : c.code = code) (hr : meth.sig.returnType = ret) (hlocks : meth.locks = false) {pc : Nat} {H : Heap} {ls : Array Slot} (hdg : decode code pc = .ok (.ireturn, 1)) : W p l e room_1 s m #[Value.ref b] below meth c H [] 600000 7302250 (lw_Z below #[Value.ref b] s) (F0 m pc ls [.int 1]) := by
  intro T hT X
  obtain ⟨fs, hret, hrun, hended, hW, hframe⟩ := X.leave (v := some (.int 1)) (hlocks := hlocks) (fun h => by rw [hr] at h; cases h)
  have hmeth' : T.vm.method? m = some meth := X.method'
  refine ⟨T.setFrames fs, ?_, .returned (some (.int 1)), hrun, hended, rfl, ⟨_, rfl⟩, hW, hframe⟩
  jvm_step X.here [X.here.top, hx, hb, hdg, hmeth', hr, ret, narrow_b1]
  (try refine ⟨rfl, ?_⟩); (try refine ⟨rfl, ?_⟩)
  first | (intro acts; rw [hret _ acts rfl rfl rfl]) | rw [hret _ _ rfl rfl rfl]
  exact Steps.refl _
/-- what holds at the law's entry: the machine, the code, the tables' words (any of lw_tbl by 'hts w (by decide +kernel)'), the script of L ints xs at the cell b, what the Statement gives of the start (any of its parts by flat_of_before) -/
def lw_At (p : Program) (s : State) (m : MethodId) (meth : Method) (c : Code) (b L : Nat) (xs : Nat → Int32) : Prop :=
  p.tables.exec = Jvm.exec ∧ c.code = code ∧ meth.sig.returnType = ret ∧ c.maxLocals = 4 ∧ s.vm.findClass R_law = some m.cls ∧ (∀ w ∈ lw_tbl, w.before #[Value.ref b] s = true) ∧ va_X b L xs s s.heap ∧ b < s.heap.size ∧ meth.locks = false ∧ (Jvm.Cond.and given_1 narrow_1).before #[Value.ref b] s = true ∧ meth.name = "law"
theorem nw_L_7 : Cond.classLink RL 7 (tq_cl 11).1 ∈ lw_tbl ∧ Cond.instantiable (tq_cl 11).1 (tq_cl 11).2.2 ∈ lw_tbl ∧ Cond.initialized (tq_cl 11).1 ∈ lw_tbl := ⟨tq_sg1 _ (List.mem_of_getElem? (i := 21) rfl), tq_sg1 _ (List.mem_of_getElem? (i := 22) rfl), tq_sg1 _ (List.mem_of_getElem? (i := 1) rfl)⟩
theorem nw_L_10 : Cond.classLink RL 10 (tq_cl 12).1 ∈ lw_tbl ∧ Cond.instantiable (tq_cl 12).1 (tq_cl 12).2.2 ∈ lw_tbl ∧ Cond.initialized (tq_cl 12).1 ∈ lw_tbl := ⟨tq_sg6 _ (List.mem_of_getElem? (i := 67) rfl), tq_sg6 _ (List.mem_of_getElem? (i := 68) rfl), tq_sg1 _ (List.mem_of_getElem? (i := 13) rfl)⟩
theorem l_L_9 : tq_lok RL 9 miX11_init.1 := Or.inl (tq_sg1 _ (List.mem_of_getElem? (i := 23) rfl))
theorem moiX11_init : tq_mok miX11_init 0 := ⟨tq_sg1 _ (List.mem_of_getElem? (i := 1) rfl), tq_sg1 _ (List.mem_of_getElem? (i := 25) rfl), ⟨by decide, by decide, by decide +kernel⟩, by decide⟩
theorem miiX11_init : Cond.instanceMethod miX11_init.1 ∈ lw_tbl := tq_sg1 _ (List.mem_of_getElem? (i := 24) rfl)
theorem l_L_12 : tq_lok RL 12 miX12_init.1 := Or.inl (tq_sg6 _ (List.mem_of_getElem? (i := 69) rfl))
theorem moiX12_init : tq_mok miX12_init 0 := ⟨tq_sg1 _ (List.mem_of_getElem? (i := 13) rfl), tq_sg6 _ (List.mem_of_getElem? (i := 71) rfl), ⟨by decide, by decide, by decide +kernel⟩, by decide⟩
theorem miiX12_init : Cond.instanceMethod miX12_init.1 ∈ lw_tbl := tq_sg6 _ (List.mem_of_getElem? (i := 70) rfl)
theorem rL_law_0 : tq_D code 0 (.new 7) 3 3 := ⟨by decide +kernel, rfl⟩
theorem rL_law_3 : tq_D code 3 (.dup) 1 4 := ⟨by decide +kernel, rfl⟩
theorem rL_law_4 : tq_D code 4 (.invokespecial 9) 3 7 := ⟨by decide +kernel, rfl⟩
theorem rL_law_7 : tq_D code 7 (.astore_n 1) 1 8 := ⟨by decide +kernel, rfl⟩
theorem rL_law_8 : tq_D code 8 (.new 10) 3 11 := ⟨by decide +kernel, rfl⟩
theorem rL_law_11 : tq_D code 11 (.dup) 1 12 := ⟨by decide +kernel, rfl⟩
theorem rL_law_12 : tq_D code 12 (.invokespecial 12) 3 15 := ⟨by decide +kernel, rfl⟩
theorem rL_law_15 : tq_D code 15 (.astore_n 2) 1 16 := ⟨by decide +kernel, rfl⟩
theorem rL_law_16 : tq_D code 16 (.iconst 0) 1 17 := ⟨by decide +kernel, rfl⟩
theorem rL_law_17 : tq_D code 17 (.istore_n 3) 1 18 := ⟨by decide +kernel, rfl⟩
/-- the ints and longs behind the constructors -/
def tq_I0 : tq_PI := Z473.2.2.1
def tq_L0 : tq_PL := Z473.2.2.2
theorem Zend_1 : Z473.1 = tq_k0 := by decide +kernel
theorem Zend_2 : ∀ a, a < 154 → Z473.2.1.1 a = tq_sh0 a ∧ Z473.2.1.2.1 a = tq_ln0 a := by decide +kernel
theorem Zend_3 : ∀ a, a < 154 → ∀ k, k < 40 → Z473.2.1.2.2 a k = tq_r0 a k := by decide +kernel
theorem tq_rl_lt : ∀ a, a < 154 → ∀ q ∈ tq_rl.getD a [], q.1 < 40 := by decide +kernel
theorem tq_look_none {l : List (Nat × Nat)} {k : Nat} (h : ∀ q ∈ l, q.1 < 40) (hk : 40 ≤ k) : l.lookup k = none := by
  induction l with
  | nil => rfl
  | cons q l ih =>
    have h1 := h q List.mem_cons_self
    unfold List.lookup
    have : (k == q.1) = false := by simp; omega
    rw [this]
    exact ih (fun q hq => h q (List.mem_cons_of_mem _ hq))
theorem Zend : Z473 = tq_st tq_I0 tq_L0 := by
  have hb := Z473_b
  have h1 : Z473.1.1 = 154 := by rw [Zend_1]
  have e1 : Z473.2.1.1 = tq_sh0 := by
    funext a
    by_cases h : a < 154
    · exact (Zend_2 a h).1
    · rw [hb.1 a (by omega)]
      unfold tq_sh0
      rw [List.getD_eq_getElem?_getD, List.getElem?_eq_none (show tq_shl.length ≤ a by exact Nat.le_of_not_lt h)]
      rfl
  have e2 : Z473.2.1.2.1 = tq_ln0 := by
    funext a
    by_cases h : a < 154
    · exact (Zend_2 a h).2
    · rw [hb.2.1 a (by omega)]
      unfold tq_ln0
      rw [List.getD_eq_getElem?_getD, List.getElem?_eq_none (show tq_lnl.length ≤ a by exact Nat.le_of_not_lt h)]
      rfl
  have e3 : Z473.2.1.2.2 = tq_r0 := by
    funext a k
    by_cases h : a < 154
    · by_cases hk : k < 40
      · exact Zend_3 a h k hk
      · rw [hb.2.2 a k (Or.inr (by omega))]
        unfold tq_r0
        rw [tq_look_none (tq_rl_lt a h) (by omega)]
    · rw [hb.2.2 a k (Or.inl (by omega))]
      unfold tq_r0
      rw [List.getD_eq_getElem?_getD, List.getElem?_eq_none (show tq_rl.length ≤ a by exact Nat.le_of_not_lt h)]
      rfl
  show Z473 = (tq_k0, (tq_sh0, tq_ln0, tq_r0), Z473.2.2.1, Z473.2.2.2)
  rw [← Zend_1, ← e1, ← e2, ← e3]
set_option maxRecDepth 100000 in
set_option maxHeartbeats 4000000 in
/-- the law from its first instruction, over the store -/
theorem law_X {S : Nat × (Nat → Int32)} (hS : S.1 < 100000) {out : Bool × tq_PI × tq_PL} (hf : FL_law S tq_I0 tq_L0 = some out) : tq_X S mL_law (0 + 27) (0, 0) 0 [.retAddr 0, tq_u, tq_u, tq_u] [] Z0 (tq_Q (tq_one2 (some (.int (tq_b out.1))) out.2.1 out.2.2)) := by
  refine tz_new 0 (ci := 11) rL_law_0 (by decide) (nw_L_7) (by decide +kernel) (by decide +kernel) ?_
  show tq_X _ _ _ _ _ _ _ Z1 _
  refine tq_dup rL_law_3 rfl ?_
  refine tq_callI (as := []) (st := [.ref 0]) rL_law_4 l_L_9 moiX11_init ⟨rfl, miiX11_init, rfl⟩ rfl rfl (Nat.le_of_ble_eq_true rfl) (by decide +kernel) zc48 ?_
  rintro r9 s9 ⟨rfl, rfl⟩
  show tq_X _ _ _ _ _ _ [.ref 0] Z437 _
  refine tq_astore_n ([.retAddr 0, .ref 0, tq_u, tq_u]) rL_law_7 (Nat.le_of_ble_eq_true rfl) rfl ?_
  refine tz_new 136 (ci := 12) rL_law_8 (by decide) (nw_L_10) (by decide +kernel) (by decide +kernel) ?_
  show tq_X _ _ _ _ _ _ _ Z438 _
  refine tq_dup rL_law_11 rfl ?_
  refine tq_callI (as := []) (st := [.ref 136]) rL_law_12 l_L_12 moiX12_init ⟨rfl, miiX12_init, rfl⟩ rfl rfl (Nat.le_of_ble_eq_true rfl) (by decide +kernel) zc49 ?_
  rintro r9 s9 ⟨rfl, rfl⟩
  show tq_X _ _ _ _ _ _ [.ref 136] Z473 _
  refine tq_astore_n ([.retAddr 0, .ref 0, .ref 136, tq_u]) rL_law_15 (Nat.le_of_ble_eq_true rfl) rfl ?_
  refine tq_iconst (0 : Int32) rL_law_16 (by decide) ?_
  refine tq_istore_n ([.retAddr 0, .ref 0, .ref 136, .int (0 : Int32)]) rL_law_17 (Nat.le_of_ble_eq_true rfl) rfl ?_
  rw [Zend]
  exact CL_law (d := 0) hS hf
theorem tq_inst : ∀ k, k < 13 → Cond.instantiable (tq_cl k).1 (tq_cl k).2.2 ∈ lw_tbl
  | 0, _ => nw_X11_7.2.1
  | 1, _ => nw_X11_59.2.1
  | 2, _ => nw_X11_52.2.1
  | 3, _ => nw_X0_29.2.1
  | 4, _ => nw_X0_41.2.1
  | 5, _ => nw_X11_38.2.1
  | 6, _ => nw_X11_45.2.1
  | 7, _ => nw_X11_24.2.1
  | 8, _ => nw_X11_31.2.1
  | 9, _ => nw_X0_47.2.1
  | 10, _ => nw_X0_35.2.1
  | 11, _ => nw_L_7.2.1
  | 12, _ => nw_L_10.2.1
  | k + 13, h => absurd h (by omega)
def tq_tm (i : Nat) : Term := .string "TwoQuarries$Reader" (tq_kJ.getD i 0)
theorem tq_g1 : ∀ i, i < 11 → Cond.exactly (tq_tm i) "java/lang/String" ∈ flatC (Jvm.Cond.and given_1 narrow_1) := by decide +kernel
theorem tq_g2 : ∀ i, i < 11 → Cond.eq (.field (tq_tm i) "java/lang/String" "coder" "B") (.int 0) ∈ flatC (Jvm.Cond.and given_1 narrow_1) := by decide +kernel
theorem tq_g3 : ∀ i, i < 11 → Cond.arrayOf (.field (tq_tm i) "java/lang/String" "value" "[B") .byte ∈ flatC (Jvm.Cond.and given_1 narrow_1) := by decide +kernel
theorem tq_g4 : ∀ i, i < 11 → Cond.eq (.length (.field (tq_tm i) "java/lang/String" "value" "[B")) (.int (Int32.ofNat (tq_lJ.getD i 0))) ∈ flatC (Jvm.Cond.and given_1 narrow_1) := by decide +kernel
theorem tq_g5 : ∀ i, i < 11 → ∀ j, j < tq_lJ.getD i 0 → Cond.eq (.elem (.field (tq_tm i) "java/lang/String" "value" "[B") (.int (Int32.ofNat j))) (.int ((tq_bJ.getD i []).getD j 0)) ∈ flatC (Jvm.Cond.and given_1 narrow_1) := by decide +kernel
theorem tq_g6 : ∀ i, i < 11 → ∀ j, j < 11 → i ≠ j → Cond.not (Cond.eq (tq_tm i) (tq_tm j)) ∈ flatC (Jvm.Cond.and given_1 narrow_1) ∨ Cond.not (Cond.eq (tq_tm j) (tq_tm i)) ∈ flatC (Jvm.Cond.and given_1 narrow_1) := by decide +kernel
theorem tq_g7 : Cond.eq (.static "java/lang/String" "COMPACT_STRINGS" "Z") (.int 1) ∈ flatC (Jvm.Cond.and given_1 narrow_1) := by decide +kernel
theorem tq_g8 : Cond.isRef (.static "jdk/internal/util/Preconditions" "SIOOBE_FORMATTER" "Ljava/util/function/BiFunction;") ∈ flatC (Jvm.Cond.and given_1 narrow_1) := by decide +kernel
theorem tq_g9 : ∀ i, i < 11 → Cond.stringRef "TwoQuarries$Reader" (tq_kJ.getD i 0) (tq_xJ.getD i "") ∈ lw_tbl
  | 0, _ => tq_sg2 _ (List.mem_of_getElem? (i := 231) rfl)
  | 1, _ => tq_sg3 _ (List.mem_of_getElem? (i := 44) rfl)
  | 2, _ => tq_sg3 _ (List.mem_of_getElem? (i := 45) rfl)
  | 3, _ => tq_sg3 _ (List.mem_of_getElem? (i := 46) rfl)
  | 4, _ => tq_sg3 _ (List.mem_of_getElem? (i := 47) rfl)
  | 5, _ => tq_sg3 _ (List.mem_of_getElem? (i := 48) rfl)
  | 6, _ => tq_sg3 _ (List.mem_of_getElem? (i := 53) rfl)
  | 7, _ => tq_sg3 _ (List.mem_of_getElem? (i := 54) rfl)
  | 8, _ => tq_sg3 _ (List.mem_of_getElem? (i := 55) rfl)
  | 9, _ => tq_sg3 _ (List.mem_of_getElem? (i := 56) rfl)
  | 10, _ => tq_sg3 _ (List.mem_of_getElem? (i := 57) rfl)
  | k + 11, h => absurd h (by omega)
set_option maxRecDepth 100000 in
set_option maxHeartbeats 4000000 in
/-- the law's walk, out of a pure statement over the mirror -/
theorem whole_open (hpure : ∀ S : Nat × (Nat → Int32), S.1 ≤ 3072 → ∃ out, FL_law S tq_I0 tq_L0 = some out ∧ out.1 = true) {p : Program} {e : Env} {s : State} {m : MethodId} {below : List Frame} {meth : Method} {c : Code} (l : Launch) {b L : Nat} {xs : Nat → Int32} (hL : L ≤ 3072) (C0 : lw_At p s m meth c b L xs) : W p l e room_1 s m #[Value.ref b] below meth c s.heap [] 0 0 (lw_Z below #[Value.ref b] s) (entryFrame m ([Value.ref b] : List Value).toArray 4) := by
  obtain ⟨hx, hb, hr, hml, hown, hts, hX, hbl, hlocks, hgv, hnm⟩ := C0
  have hg := flat_of_before _ hgv
  have htg : ∀ w ∈ tq_tb, w.before #[Value.ref b] s = true := fun w hw => hts w (List.mem_filter.mp hw).1
  obtain ⟨out, hF, ho⟩ := hpure (L, xs) hL
  have h13 : ∀ k : Nat, ∃ q : ClassId × (Nat → Nat), k < 13 → u_Kn s (tq_cl k).1 (tq_cl k).2.1 (tq_cl k).2.2 q.1 q.2 := by
    intro k
    by_cases hk : k < 13
    · have hin := tq_in hk
      rw [← tq_cl_n k hk] at hin
      obtain ⟨c9, i9, h9⟩ := u_known (C := (tq_cl k).1) (T := (tq_cl k).2.1) (N := (tq_cl k).2.2) (n := (tq_cl k).2.2) htg hin (hts _ (tq_inst k hk))
      exact ⟨(c9, i9), fun _ => h9⟩
    · exact ⟨(0, fun _ => 0), fun h => absurd h hk⟩
  obtain ⟨D0, hD0⟩ := Classical.axiomOfChoice h13
  have hA : ∀ a : Nat, a < s.heap.size → ¬ (fun q : Nat => s.heap.size ≤ q) a := fun a h => Nat.not_le.mpr h
  obtain ⟨adK, adV, hS9, hT9⟩ := vk_Sof (args := #[Value.ref b]) (s := s) (N := 11) (tm := tq_tm) (len := tq_lJ) (byt := tq_bJ) (A := fun q : Nat => s.heap.size ≤ q) (by decide) (fun i hi => hg _ (tq_g1 i hi)) (fun i hi => hg _ (tq_g2 i hi)) (fun i hi => hg _ (tq_g3 i hi)) (fun i hi => hg _ (tq_g4 i hi)) (fun i hi j hj => hg _ (tq_g5 i hi j hj)) (fun i j hi hj hij => (tq_g6 i hi j hj hij).imp (fun h => hg _ h) (fun h => hg _ h)) hA
  have hZ1 : va_Z "java/lang/String" "COMPACT_STRINGS" "Z" (.int 1) (fun q : Nat => s.heap.size ≤ q) s s.heap := va_Zof (hts _ (tq_sg3 _ (List.mem_of_getElem? (i := 5) rfl))) (hts _ (tq_sg1 _ (List.mem_of_getElem? (i := 16) rfl))) (va_eqt (hg _ tq_g7)) hA
  have hZ2 : va_Zq "jdk/internal/util/Preconditions" "SIOOBE_FORMATTER" "Ljava/util/function/BiFunction;" (fun q : Nat => s.heap.size ≤ q) s s.heap := va_Zqof (hts _ (tq_sg3 _ (List.mem_of_getElem? (i := 21) rfl))) (hts _ (tq_sg1 _ (List.mem_of_getElem? (i := 18) rfl))) (hg _ tq_g8) hA
  obtain ⟨t9, ht9⟩ : ∃ t9 : Nat, va_Z "jdk/internal/util/Preconditions" "SIOOBE_FORMATTER" "Ljava/util/function/BiFunction;" .null (fun q : Nat => s.heap.size ≤ q) s s.heap ∨ va_Z "jdk/internal/util/Preconditions" "SIOOBE_FORMATTER" "Ljava/util/function/BiFunction;" (.ref t9) (fun q : Nat => s.heap.size ≤ q) s s.heap := by
    rcases hZ2 with h | ⟨t, h⟩
    · exact ⟨0, Or.inl h⟩
    · exact ⟨t, Or.inr h⟩
  obtain ⟨G, hG⟩ : ∃ G : tq_G, G = (l, ((fun k => (D0 k).1), (fun k => (D0 k).2)), (fun t => (s.vm.findClass ("[" ++ (tq_at t).toString)).getD 0), s.heap.size, (b, L, xs), adK, (fun i => if i = 799 then t9 else adV i)) := ⟨_, rfl⟩
  have hK : va_K G.2.1 vwCl [] s := by
    refine ⟨fun k q hq => ?_, fun k q h => by simp at h⟩
    have hk : k < 13 := (List.getElem?_eq_some_iff.mp hq).1
    have e1 := tq_cl_at hk
    rw [hq] at e1
    cases Option.some.inj e1
    rw [hG]
    exact hD0 k hk
  have hFo : tq_Fo G s := by
    rw [hG]
    refine ⟨fun w hw hn => ?_, fun C hC => va_AO.of (hts _ hC), hX, hbl, ?_, hZ1, fun i hi => vk_R.of (hts _ (tq_g9 i hi)) (hT9 i hi), ?_⟩
    · have hz := hts w hw
      cases w <;> first | exact va_Nw.of rfl hz | (simp [tq_isN] at hn)
    · refine ⟨fun i hi => ?_, hS9.2⟩
      have h9 := hS9.1 i hi
      have e9 : (if i = 799 then t9 else adV i) = adV i := if_neg (by have : i < 11 := hi; omega)
      dsimp only
      rw [e9]
      exact h9
    · dsimp only
      rw [if_pos rfl]
      exact ht9
  have hFx : tq_Fx (L, xs) mL_law (0 + 27) G p room_1 s m #[Value.ref b] meth c := ⟨hx, hb, hml, hown, htg, hr, hlocks, hnm, ⟨by decide, by decide, by decide, by decide, by rw [hG]⟩, hK, by rw [hG]; exact fun t => rfl, by rw [hG]; exact Nat.le_refl _, hFo⟩
  have hWt : tq_Wt G s s.heap Z0 := ⟨by rw [hG]; rfl, fun i hi => absurd hi (Nat.not_lt_zero _), fun i hi => absurd hi (Nat.not_lt_zero _), fun _ _ => rfl, fun i hi => by cases hi⟩
  have hl := lv_entry ([.ref b]) (n := 4) (Nat.le_of_ble_eq_true rfl)
  rw [lg_entry_eq]
  have hX1 := law_X (S := (L, xs)) (by show L < 100000; omega) hF G p e room_1 s m #[Value.ref b] below meth c s.heap [] _ hFx hWt va_S.rf ⟨hl.1, hl.2.1, fun q hq => hl.2.2 q (by
    obtain ⟨i, v, rfl, hi, hv⟩ := tq_lv_of hq
    match i, hi with
    | 0, hi =>
      cases hi
      rw [hG]
      exact List.mem_singleton.mpr rfl
    | 1, hi => cases hi; exact absurd rfl (hv 0)
    | 2, hi => cases hi; exact absurd rfl (hv 0)
    | 3, hi => cases hi; exact absurd rfl (hv 0)
    | i + 4, hi => cases hi)⟩ ⟨Nat.le_refl _, by decide, Nat.le_refl _, by decide⟩
  intro T hT X
  have hl1 : G.1 = l := by rw [hG]
  rw [hl1] at hX1
  obtain ⟨t, g1, o, g2, g3, g4, L9, g5, g6⟩ := hX1 T hT X
  obtain ⟨⟨r, σ, k1, ⟨I9, M9, -, k2, -⟩, -, -⟩, -⟩ := g4
  refine ⟨t, g1, o, g2, g3, ?_, g5.1, g5.2.1, g5.2.2.weaken (fun y hy hlt => absurd hlt (Nat.not_lt.mpr (by have h9 := g6 y hy; rw [hG] at h9; exact h9))) (by decide) (by decide)⟩
  rw [k1, k2, ho]
  rfl
