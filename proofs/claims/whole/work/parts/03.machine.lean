/-! THE SMALL MACHINE. A store of typed cells (place a, slot k), told by functions; a judgement tq_X: 'from this pc, with these locals, this stack and this store, the method comes to its end, and Q holds of its answer and of the store then'. Each rule below turns a row of the kit into a rule over the store. -/
/-- a store: (cells, slots) made so far; kind, length and references of each cell; ints and longs -/
abbrev tq_S : Type := (Nat × Nat) × ((Nat → Nat) × (Nat → Nat) × (Nat → Nat → Option Nat)) × ((Nat → Nat → Int32) × (Nat → Nat → Int64))
/-- a method: name, code, locals, answer's type, (cells, slots) that it makes -/
abbrev tq_M : Type := MethodName × ByteArray × Nat × Option FieldType × Nat × Nat
/-- what stays: launch, class numbers, array classes, the heap's size at the law's entry, the script, the texts -/
abbrev tq_G : Type := Launch × va_G × (Nat → ClassId) × Nat × (Nat × Nat × (Nat → Int32)) × (Nat → Nat) × (Nat → Nat)
abbrev tq_u : Value := .float 0
def tq_fo (G : tq_G) (n : Nat) : Nat := if n = 0 then G.2.2.2.2.1.1 else if n < 100 then G.2.2.2.2.2.1 (n - 1) else G.2.2.2.2.2.2 (n - 101)
def tq_cv (G : tq_G) : Value → Value
  | .ref i => .ref (G.2.2.2.1 + i)
  | .retAddr n => .ref (tq_fo G n)
  | v => v
def tq_rv : Option Nat → Value
  | none => .null
  | some i => .ref i
def tq_tc : FieldType → Nat
  | .int => 0
  | .boolean => 0
  | .long => 1
  | _ => 2
def tq_at (t : Nat) : FieldType := if t = 100 then .int else if t = 101 then .long else if t = 102 then .byte else if t = 103 then .boolean else .object ((vwCl[t - 110]?).elim "" (fun r => r.1))
def tq_tyf (ci : Nat) : Nat → FieldType := [tyX0, tyX1, tyX2, tyX3, tyX4, tyX5, tyX6, tyX7, tyX8, tyX9, tyX10, tyX11, tyX12].getD ci tyX0
def tq_nf (ci : Nat) : Nat := [9, 2, 2, 10, 3, 9, 2, 13, 11, 2, 4, 10, 39].getD ci 0
def tq_fv (G : tq_G) (σ : tq_S) (a : Nat) (t : FieldType) (k : Nat) : Value := if tq_tc t = 0 then .int (σ.2.2.1 a k) else if tq_tc t = 1 then .long (σ.2.2.2 a k) else va_rf ((σ.2.1.2.2 a k).map (fun i => G.2.2.2.1 + i))
def tq_fs (G : tq_G) (σ : tq_S) (a : Nat) (ci : Nat) : List Value := (List.range (tq_nf ci)).map (fun k => tq_fv G σ a (tq_tyf ci k) k)
/-- the cell at place a, as the kit tells cells -/
def tq_ce (G : tq_G) (σ : tq_S) (a : Nat) : va_E :=
  if σ.2.1.1 a < 100 then .inr (σ.2.1.1 a, tq_fs G σ a (σ.2.1.1 a))
  else if σ.2.1.1 a = 101 then .inl (G.2.2.1 101, σ.2.1.2.1 a, .inr (.inl (σ.2.2.2 a)))
  else if σ.2.1.1 a < 110 then .inl (G.2.2.1 (σ.2.1.1 a), σ.2.1.2.1 a, .inl (σ.2.2.1 a))
  else .inl (G.2.2.1 (σ.2.1.1 a), σ.2.1.2.1 a, .inr (.inr (.inr (.inr (fun j => (σ.2.1.2.2 a j).map (fun i => G.2.2.2.1 + i))))))
def tq_P (G : tq_G) (σ : tq_S) (H : Heap) : Prop := ∀ i, i < σ.1.1 → va_at G.2.1 vwCl (G.2.2.2.1 + i, tq_ce G σ i) H
def tq_A (G : tq_G) : Nat → Prop := fun q => G.2.2.2.1 ≤ q
/-- array cells: their class is the one that the tables name -/
def tq_Ar (G : tq_G) (σ : tq_S) (s : State) : Prop := ∀ i, i < σ.1.1 → 100 ≤ σ.2.1.1 i → ArrOfT s (G.2.2.1 (σ.2.1.1 i)) (tq_at (σ.2.1.1 i)) ∧ va_RA s (G.2.2.1 (σ.2.1.1 i)) (tq_at (σ.2.1.1 i))
def tq_Sh (σ : tq_S) : Prop := (∀ i, σ.1.1 ≤ i → σ.2.1.1 i = 99) ∧ ∀ i, σ.2.1.1 i = 102 → ∀ j, fits .byte (.int (σ.2.2.1 i j)) = true
/-- a store is in a heap -/
def tq_Wt (G : tq_G) (s : State) (H : Heap) (σ : tq_S) : Prop := H.size = G.2.2.2.1 + σ.1.1 ∧ tq_P G σ H ∧ tq_Ar G σ s ∧ tq_Sh σ
def tq_nJ : Nat := 11
def tq_lJ : List Nat := [4, 3, 5, 6, 7, 4, 5, 5, 5, 5, 4]
/-- the texts: size, air, chalk, marble, granite, prop, north, south, knock, heard, word -/
def tq_bJ : List (List Int32) := [[115, 105, 122, 101], [97, 105, 114], [99, 104, 97, 108, 107], [109, 97, 114, 98, 108, 101], [103, 114, 97, 110, 105, 116, 101], [112, 114, 111, 112], [110, 111, 114, 116, 104], [115, 111, 117, 116, 104], [107, 110, 111, 99, 107], [104, 101, 97, 114, 100], [119, 111, 114, 100]]
def tq_xJ : List String := ["size", "air", "chalk", "marble", "granite", "prop", "north", "south", "knock", "heard", "word"]
def tq_kJ : List Nat := [178, 179, 181, 183, 185, 187, 189, 191, 193, 170, 176]
/-- what lies outside the store and stays: the script, the texts, a static of String -/
def tq_isN : Cond → Bool
  | .fieldLinkNest .. => true
  | .methodLinkNest .. => true
  | _ => false
/-- the words that a callee is given -/
def tq_tb : List Cond := lw_tbl.filter goodWord
def tq_Fo (G : tq_G) (s : State) : Prop := (∀ w ∈ lw_tbl, tq_isN w = true → va_Nw w s) ∧ (∀ C, Cond.arrayOver (.object C) ∈ lw_tbl → va_AO C s) ∧ va_X G.2.2.2.2.1.1 G.2.2.2.2.1.2.1 G.2.2.2.2.1.2.2 s s.heap ∧ G.2.2.2.2.1.1 < G.2.2.2.1 ∧ vk_S tq_nJ tq_lJ tq_bJ G.2.2.2.2.2.1 G.2.2.2.2.2.2 (tq_A G) s s.heap ∧ va_Z "java/lang/String" "COMPACT_STRINGS" "Z" (.int 1) (tq_A G) s s.heap ∧ (∀ i, i < tq_nJ → vk_R "TwoQuarries$Reader" (tq_kJ.getD i 0) (tq_xJ.getD i "") (G.2.2.2.2.2.1 i) s) ∧ (va_Z "jdk/internal/util/Preconditions" "SIOOBE_FORMATTER" "Ljava/util/function/BiFunction;" .null (tq_A G) s s.heap ∨ va_Z "jdk/internal/util/Preconditions" "SIOOBE_FORMATTER" "Ljava/util/function/BiFunction;" (.ref (G.2.2.2.2.2.2 799)) (tq_A G) s s.heap)
/-- the frame's facts -/
def tq_Fx (S : Nat × (Nat → Int32)) (M : tq_M) (d : Nat) (G : tq_G) (p : Program) (R : Room) (s : State) (m : MethodId) (args : Array Value) (meth : Method) (c : Code) : Prop :=
  p.tables.exec = Jvm.exec ∧ c.code = M.2.1 ∧ c.maxLocals = M.2.2.1 ∧ s.vm.findClass M.1.cls = some m.cls ∧ (∀ w ∈ tq_tb, w.before args s = true) ∧ meth.sig.returnType = M.2.2.2.1 ∧ meth.locks = false ∧ meth.name = M.1.name ∧ (d ≤ R.frames ∧ 60 * d ≤ R.locals ∧ M.2.2.2.2.1 ≤ R.cells ∧ M.2.2.2.2.2 ≤ R.slots ∧ G.2.2.2.2.1.2 = S) ∧ va_K G.2.1 vwCl [] s ∧ (∀ t, G.2.2.1 t = (s.vm.findClass ("[" ++ (tq_at t).toString)).getD 0) ∧ G.2.2.2.1 ≤ s.heap.size ∧ tq_Fo G s
/-- the locals that are set, from place i on -/
def tq_lv (G : tq_G) : Nat → List Value → List (Nat × Value)
  | _, [] => []
  | i, v :: r => (match v with | .float _ => [] | w => [(i, tq_cv G w)]) ++ tq_lv G (i + 1) r
def tq_Qc (G : tq_G) (M : tq_M) (c0 : Nat × Nat) (Q : Option Value → tq_S → Prop) : Array Value → State → Outcome → State → Prop := fun _ st o t => (∃ (r : Option Value) (σ : tq_S), o = .returned (r.map (tq_cv G)) ∧ Q r σ ∧ σ.1 = (c0.1 + M.2.2.2.2.1, c0.2 + M.2.2.2.2.2) ∧ tq_Wt G t t.heap σ) ∧ va_F (tq_A G) st t
/-- THE JUDGEMENT -/
def tq_X (S : Nat × (Nat → Int32)) (M : tq_M) (d : Nat) (c0 : Nat × Nat) (pc : Nat) (ls st : List Value) (σ : tq_S) (Q : Option Value → tq_S → Prop) : Prop :=
  ∀ (G : tq_G) (p : Program) (e : Env) (R : Room) (s : State) (m : MethodId) (args : Array Value) (below : List Frame) (meth : Method) (c : Code) (H : Heap) (locs : List Loc) (la : Array Slot),
    tq_Fx S M d G p R s m args meth c → tq_Wt G s H σ → va_S (tq_A G) s.heap H locs → lv_has la M.2.2.1 (tq_lv G 0 ls) →
    (c0.1 ≤ σ.1.1 ∧ σ.1.1 ≤ c0.1 + M.2.2.2.2.1 ∧ c0.2 ≤ σ.1.2 ∧ σ.1.2 ≤ c0.2 + M.2.2.2.2.2) →
    W p G.1 e R s m args below meth c H locs (σ.1.1 - c0.1) (σ.1.2 - c0.2) (MQ below (tq_Qc G M c0 Q) args s M.2.2.2.2.1 M.2.2.2.2.2 (tq_A G)) (F0 m pc la (st.map (tq_cv G)))
/-- an instruction at its place -/
def tq_D (b : ByteArray) (pc : Nat) (i : Instr) (len nx : Nat) : Prop := decode b pc = .ok (i, len) ∧ pc + len = nx
/-- a jump -/
def tq_J (b : ByteArray) (pc : Nat) (i : Int → Instr) (tgt nx : Nat) : Prop := ∃ off : Int, decode b pc = .ok (i off, 3) ∧ (pc : Int) + off = (tgt : Int) ∧ pc + 3 = nx
section TQ1
variable {S : Nat × (Nat → Int32)} {M : tq_M} {d : Nat} {c0 : Nat × Nat} {pc nx tgt : Nat} {ls st : List Value} {σ : tq_S} {Q : Option Value → tq_S → Prop}
theorem tq_iconst {n : Int} (v : Int32) (hd : tq_D M.2.1 pc (.iconst n) 1 nx) (hv : Int32.ofInt n = v) (k : tq_X S M d c0 nx ls (.int v :: st) σ Q) : tq_X S M d c0 pc ls (st) σ Q := by
  obtain ⟨hd, rfl⟩ := hd
  intro G p e R s m args below meth c H locs la F Wd hS hl hc
  exact lv_iconst F.1 F.2.1 hd hv (k G p e R s m args below meth c H locs la F Wd hS hl hc)
theorem tq_bipush {n : Int} (v : Int32) (hd : tq_D M.2.1 pc (.bipush n) 2 nx) (hv : (Int8.ofInt n).toInt32 = v) (k : tq_X S M d c0 nx ls (.int v :: st) σ Q) : tq_X S M d c0 pc ls (st) σ Q := by
  obtain ⟨hd, rfl⟩ := hd
  intro G p e R s m args below meth c H locs la F Wd hS hl hc
  exact lv_bipush F.1 F.2.1 hd hv (k G p e R s m args below meth c H locs la F Wd hS hl hc)
theorem tq_sipush {n : Int} (v : Int32) (hd : tq_D M.2.1 pc (.sipush n) 3 nx) (hv : (Int16.ofInt n).toInt32 = v) (k : tq_X S M d c0 nx ls (.int v :: st) σ Q) : tq_X S M d c0 pc ls (st) σ Q := by
  obtain ⟨hd, rfl⟩ := hd
  intro G p e R s m args below meth c H locs la F Wd hS hl hc
  exact lv_sipush F.1 F.2.1 hd hv (k G p e R s m args below meth c H locs la F Wd hS hl hc)
theorem tq_lconst {n : Fin 2} (v : Int64) (hd : tq_D M.2.1 pc (.lconst n) 1 nx) (hv : Int64.ofNat (n : Nat) = v) (k : tq_X S M d c0 nx ls (.long v :: st) σ Q) : tq_X S M d c0 pc ls (st) σ Q := by
  obtain ⟨hd, rfl⟩ := hd
  intro G p e R s m args below meth c H locs la F Wd hS hl hc
  exact lv_lconst F.1 F.2.1 hd hv (k G p e R s m args below meth c H locs la F Wd hS hl hc)
theorem tq_ldc {ix : Nat} {v : Int32} (hd : tq_D M.2.1 pc (.ldc ix) 2 nx) (hw : Jvm.Cond.constant M.1.cls ix v ∈ lw_tbl) (k : tq_X S M d c0 nx ls (.int v :: st) σ Q) : tq_X S M d c0 pc ls (st) σ Q := by
  obtain ⟨hd, rfl⟩ := hd
  intro G p e R s m args below meth c H locs la F Wd hS hl hc
  exact lv_ldc F.1 F.2.1 F.2.2.2.1 (F.2.2.2.2.1 _ (List.mem_filter.mpr ⟨hw, rfl⟩)) hd (k G p e R s m args below meth c H locs la F Wd hS hl hc)
theorem tq_ldcw {ix : Nat} {v : Int32} (hd : tq_D M.2.1 pc (.ldc_w ix) 3 nx) (hw : Jvm.Cond.constant M.1.cls ix v ∈ lw_tbl) (k : tq_X S M d c0 nx ls (.int v :: st) σ Q) : tq_X S M d c0 pc ls (st) σ Q := by
  obtain ⟨hd, rfl⟩ := hd
  intro G p e R s m args below meth c H locs la F Wd hS hl hc
  exact lv_ldcw F.1 F.2.1 F.2.2.2.1 (F.2.2.2.2.1 _ (List.mem_filter.mpr ⟨hw, rfl⟩)) hd (k G p e R s m args below meth c H locs la F Wd hS hl hc)
theorem tq_ldc2 {ix : Nat} {v : Int64} (hd : tq_D M.2.1 pc (.ldc2_w ix) 3 nx) (hw : Jvm.Cond.constantLong M.1.cls ix v ∈ lw_tbl) (k : tq_X S M d c0 nx ls (.long v :: st) σ Q) : tq_X S M d c0 pc ls (st) σ Q := by
  obtain ⟨hd, rfl⟩ := hd
  intro G p e R s m args below meth c H locs la F Wd hS hl hc
  exact lv_ldc2 F.1 F.2.1 F.2.2.2.1 (F.2.2.2.2.1 _ (List.mem_filter.mpr ⟨hw, rfl⟩)) hd (k G p e R s m args below meth c H locs la F Wd hS hl hc)
theorem tq_null  (hd : tq_D M.2.1 pc (.aconst_null) 1 nx)  (k : tq_X S M d c0 nx ls (.null :: st) σ Q) : tq_X S M d c0 pc ls (st) σ Q := by
  obtain ⟨hd, rfl⟩ := hd
  intro G p e R s m args below meth c H locs la F Wd hS hl hc
  exact lv_null F.1 F.2.1 hd (k G p e R s m args below meth c H locs la F Wd hS hl hc)
theorem tq_iadd {x y : Int32} (hd : tq_D M.2.1 pc (.iadd) 1 nx)  (k : tq_X S M d c0 nx ls (.int (x + y) :: st) σ Q) : tq_X S M d c0 pc ls (.int y :: .int x :: st) σ Q := by
  obtain ⟨hd, rfl⟩ := hd
  intro G p e R s m args below meth c H locs la F Wd hS hl hc
  exact lv_iadd F.1 F.2.1 hd (k G p e R s m args below meth c H locs la F Wd hS hl hc)
theorem tq_isub {x y : Int32} (hd : tq_D M.2.1 pc (.isub) 1 nx)  (k : tq_X S M d c0 nx ls (.int (x - y) :: st) σ Q) : tq_X S M d c0 pc ls (.int y :: .int x :: st) σ Q := by
  obtain ⟨hd, rfl⟩ := hd
  intro G p e R s m args below meth c H locs la F Wd hS hl hc
  exact lv_isub F.1 F.2.1 hd (k G p e R s m args below meth c H locs la F Wd hS hl hc)
theorem tq_imul {x y : Int32} (hd : tq_D M.2.1 pc (.imul) 1 nx)  (k : tq_X S M d c0 nx ls (.int (x * y) :: st) σ Q) : tq_X S M d c0 pc ls (.int y :: .int x :: st) σ Q := by
  obtain ⟨hd, rfl⟩ := hd
  intro G p e R s m args below meth c H locs la F Wd hS hl hc
  exact lv_imul F.1 F.2.1 hd (k G p e R s m args below meth c H locs la F Wd hS hl hc)
theorem tq_iand {x y : Int32} (hd : tq_D M.2.1 pc (.iand) 1 nx)  (k : tq_X S M d c0 nx ls (.int (x &&& y) :: st) σ Q) : tq_X S M d c0 pc ls (.int y :: .int x :: st) σ Q := by
  obtain ⟨hd, rfl⟩ := hd
  intro G p e R s m args below meth c H locs la F Wd hS hl hc
  exact lv_iand F.1 F.2.1 hd (k G p e R s m args below meth c H locs la F Wd hS hl hc)
theorem tq_ior {x y : Int32} (hd : tq_D M.2.1 pc (.ior) 1 nx)  (k : tq_X S M d c0 nx ls (.int (x ||| y) :: st) σ Q) : tq_X S M d c0 pc ls (.int y :: .int x :: st) σ Q := by
  obtain ⟨hd, rfl⟩ := hd
  intro G p e R s m args below meth c H locs la F Wd hS hl hc
  exact lv_ior F.1 F.2.1 hd (k G p e R s m args below meth c H locs la F Wd hS hl hc)
theorem tq_ixor {x y : Int32} (hd : tq_D M.2.1 pc (.ixor) 1 nx)  (k : tq_X S M d c0 nx ls (.int (x ^^^ y) :: st) σ Q) : tq_X S M d c0 pc ls (.int y :: .int x :: st) σ Q := by
  obtain ⟨hd, rfl⟩ := hd
  intro G p e R s m args below meth c H locs la F Wd hS hl hc
  exact lv_ixor F.1 F.2.1 hd (k G p e R s m args below meth c H locs la F Wd hS hl hc)
theorem tq_ishl {x y : Int32} (hd : tq_D M.2.1 pc (.ishl) 1 nx)  (k : tq_X S M d c0 nx ls (.int (x <<< (y &&& 31)) :: st) σ Q) : tq_X S M d c0 pc ls (.int y :: .int x :: st) σ Q := by
  obtain ⟨hd, rfl⟩ := hd
  intro G p e R s m args below meth c H locs la F Wd hS hl hc
  exact lv_ishl F.1 F.2.1 hd (k G p e R s m args below meth c H locs la F Wd hS hl hc)
theorem tq_ishr {x y : Int32} (hd : tq_D M.2.1 pc (.ishr) 1 nx)  (k : tq_X S M d c0 nx ls (.int (x >>> (y &&& 31)) :: st) σ Q) : tq_X S M d c0 pc ls (.int y :: .int x :: st) σ Q := by
  obtain ⟨hd, rfl⟩ := hd
  intro G p e R s m args below meth c H locs la F Wd hS hl hc
  exact lv_ishr F.1 F.2.1 hd (k G p e R s m args below meth c H locs la F Wd hS hl hc)
theorem tq_idiv {x y : Int32} (hd : tq_D M.2.1 pc (.idiv) 1 nx) (hne : ¬ y = 0) (k : tq_X S M d c0 nx ls (.int (x / y) :: st) σ Q) : tq_X S M d c0 pc ls (.int y :: .int x :: st) σ Q := by
  obtain ⟨hd, rfl⟩ := hd
  intro G p e R s m args below meth c H locs la F Wd hS hl hc
  exact lv_idiv F.1 F.2.1 hd hne (k G p e R s m args below meth c H locs la F Wd hS hl hc)
theorem tq_irem {x y : Int32} (hd : tq_D M.2.1 pc (.irem) 1 nx) (hne : ¬ y = 0) (k : tq_X S M d c0 nx ls (.int (x - x / y * y) :: st) σ Q) : tq_X S M d c0 pc ls (.int y :: .int x :: st) σ Q := by
  obtain ⟨hd, rfl⟩ := hd
  intro G p e R s m args below meth c H locs la F Wd hS hl hc
  exact lv_irem F.1 F.2.1 hd hne (k G p e R s m args below meth c H locs la F Wd hS hl hc)
theorem tq_iushr {x y : Int32} (hd : tq_D M.2.1 pc (.iushr) 1 nx)  (k : tq_X S M d c0 nx ls (.int ((x.toUInt32 >>> (y.toUInt32 &&& Int32.toUInt32 31)).toInt32) :: st) σ Q) : tq_X S M d c0 pc ls (.int y :: .int x :: st) σ Q := by
  obtain ⟨hd, rfl⟩ := hd
  intro G p e R s m args below meth c H locs la F Wd hS hl hc
  exact lv_iushr F.1 F.2.1 hd rfl (k G p e R s m args below meth c H locs la F Wd hS hl hc)
theorem tq_ladd {x y : Int64} (hd : tq_D M.2.1 pc (.ladd) 1 nx)  (k : tq_X S M d c0 nx ls (.long (x + y) :: st) σ Q) : tq_X S M d c0 pc ls (.long y :: .long x :: st) σ Q := by
  obtain ⟨hd, rfl⟩ := hd
  intro G p e R s m args below meth c H locs la F Wd hS hl hc
  exact lv_ladd F.1 F.2.1 hd (k G p e R s m args below meth c H locs la F Wd hS hl hc)
theorem tq_lsub {x y : Int64} (hd : tq_D M.2.1 pc (.lsub) 1 nx)  (k : tq_X S M d c0 nx ls (.long (x - y) :: st) σ Q) : tq_X S M d c0 pc ls (.long y :: .long x :: st) σ Q := by
  obtain ⟨hd, rfl⟩ := hd
  intro G p e R s m args below meth c H locs la F Wd hS hl hc
  exact lv_lsub F.1 F.2.1 hd (k G p e R s m args below meth c H locs la F Wd hS hl hc)
theorem tq_lmul {x y : Int64} (hd : tq_D M.2.1 pc (.lmul) 1 nx)  (k : tq_X S M d c0 nx ls (.long (x * y) :: st) σ Q) : tq_X S M d c0 pc ls (.long y :: .long x :: st) σ Q := by
  obtain ⟨hd, rfl⟩ := hd
  intro G p e R s m args below meth c H locs la F Wd hS hl hc
  exact lv_lmul F.1 F.2.1 hd (k G p e R s m args below meth c H locs la F Wd hS hl hc)
theorem tq_land {x y : Int64} (hd : tq_D M.2.1 pc (.land) 1 nx)  (k : tq_X S M d c0 nx ls (.long (x &&& y) :: st) σ Q) : tq_X S M d c0 pc ls (.long y :: .long x :: st) σ Q := by
  obtain ⟨hd, rfl⟩ := hd
  intro G p e R s m args below meth c H locs la F Wd hS hl hc
  exact lv_land F.1 F.2.1 hd (k G p e R s m args below meth c H locs la F Wd hS hl hc)
theorem tq_lor {x y : Int64} (hd : tq_D M.2.1 pc (.lor) 1 nx)  (k : tq_X S M d c0 nx ls (.long (x ||| y) :: st) σ Q) : tq_X S M d c0 pc ls (.long y :: .long x :: st) σ Q := by
  obtain ⟨hd, rfl⟩ := hd
  intro G p e R s m args below meth c H locs la F Wd hS hl hc
  exact lv_lor F.1 F.2.1 hd (k G p e R s m args below meth c H locs la F Wd hS hl hc)
theorem tq_lxor {x y : Int64} (hd : tq_D M.2.1 pc (.lxor) 1 nx)  (k : tq_X S M d c0 nx ls (.long (x ^^^ y) :: st) σ Q) : tq_X S M d c0 pc ls (.long y :: .long x :: st) σ Q := by
  obtain ⟨hd, rfl⟩ := hd
  intro G p e R s m args below meth c H locs la F Wd hS hl hc
  exact lv_lxor F.1 F.2.1 hd (k G p e R s m args below meth c H locs la F Wd hS hl hc)
theorem tq_ldiv {x y : Int64} (hd : tq_D M.2.1 pc (.ldiv) 1 nx) (hne : ¬ y = 0) (k : tq_X S M d c0 nx ls (.long (x / y) :: st) σ Q) : tq_X S M d c0 pc ls (.long y :: .long x :: st) σ Q := by
  obtain ⟨hd, rfl⟩ := hd
  intro G p e R s m args below meth c H locs la F Wd hS hl hc
  exact lv_ldiv F.1 F.2.1 hd hne (k G p e R s m args below meth c H locs la F Wd hS hl hc)
theorem tq_lrem {x y : Int64} (hd : tq_D M.2.1 pc (.lrem) 1 nx) (hne : ¬ y = 0) (k : tq_X S M d c0 nx ls (.long (x - x / y * y) :: st) σ Q) : tq_X S M d c0 pc ls (.long y :: .long x :: st) σ Q := by
  obtain ⟨hd, rfl⟩ := hd
  intro G p e R s m args below meth c H locs la F Wd hS hl hc
  exact lv_lrem F.1 F.2.1 hd hne (k G p e R s m args below meth c H locs la F Wd hS hl hc)
theorem tq_lshl {x : Int64} {y : Int32} (hd : tq_D M.2.1 pc (.lshl) 1 nx)  (k : tq_X S M d c0 nx ls (.long (x <<< (y.toInt64 &&& 63)) :: st) σ Q) : tq_X S M d c0 pc ls (.int y :: .long x :: st) σ Q := by
  obtain ⟨hd, rfl⟩ := hd
  intro G p e R s m args below meth c H locs la F Wd hS hl hc
  exact lv_lshl F.1 F.2.1 hd rfl (k G p e R s m args below meth c H locs la F Wd hS hl hc)
theorem tq_lshr {x : Int64} {y : Int32} (hd : tq_D M.2.1 pc (.lshr) 1 nx)  (k : tq_X S M d c0 nx ls (.long (x >>> (y.toInt64 &&& 63)) :: st) σ Q) : tq_X S M d c0 pc ls (.int y :: .long x :: st) σ Q := by
  obtain ⟨hd, rfl⟩ := hd
  intro G p e R s m args below meth c H locs la F Wd hS hl hc
  exact lv_lshr F.1 F.2.1 hd rfl (k G p e R s m args below meth c H locs la F Wd hS hl hc)
theorem tq_lushr {x : Int64} {y : Int32} (hd : tq_D M.2.1 pc (.lushr) 1 nx)  (k : tq_X S M d c0 nx ls (.long ((x.toUInt64 >>> (y.toInt64.toUInt64 &&& Int64.toUInt64 63)).toInt64) :: st) σ Q) : tq_X S M d c0 pc ls (.int y :: .long x :: st) σ Q := by
  obtain ⟨hd, rfl⟩ := hd
  intro G p e R s m args below meth c H locs la F Wd hS hl hc
  exact lv_lushr F.1 F.2.1 hd rfl (k G p e R s m args below meth c H locs la F Wd hS hl hc)
theorem tq_lcmp {x y : Int64} (hd : tq_D M.2.1 pc (.lcmp) 1 nx)  (k : tq_X S M d c0 nx ls (.int (lg_cmp x y) :: st) σ Q) : tq_X S M d c0 pc ls (.long y :: .long x :: st) σ Q := by
  obtain ⟨hd, rfl⟩ := hd
  intro G p e R s m args below meth c H locs la F Wd hS hl hc
  exact W.lcmp F.1 F.2.1 hd (k G p e R s m args below meth c H locs la F Wd hS hl hc)
theorem tq_ineg {x : Int32} (hd : tq_D M.2.1 pc (.ineg) 1 nx)  (k : tq_X S M d c0 nx ls (.int (-x) :: st) σ Q) : tq_X S M d c0 pc ls (.int x :: st) σ Q := by
  obtain ⟨hd, rfl⟩ := hd
  intro G p e R s m args below meth c H locs la F Wd hS hl hc
  exact lv_ineg F.1 F.2.1 hd (k G p e R s m args below meth c H locs la F Wd hS hl hc)
theorem tq_lneg {x : Int64} (hd : tq_D M.2.1 pc (.lneg) 1 nx)  (k : tq_X S M d c0 nx ls (.long (-x) :: st) σ Q) : tq_X S M d c0 pc ls (.long x :: st) σ Q := by
  obtain ⟨hd, rfl⟩ := hd
  intro G p e R s m args below meth c H locs la F Wd hS hl hc
  exact lv_lneg F.1 F.2.1 hd (k G p e R s m args below meth c H locs la F Wd hS hl hc)
theorem tq_i2l {x : Int32} (hd : tq_D M.2.1 pc (.i2l) 1 nx)  (k : tq_X S M d c0 nx ls (.long x.toInt64 :: st) σ Q) : tq_X S M d c0 pc ls (.int x :: st) σ Q := by
  obtain ⟨hd, rfl⟩ := hd
  intro G p e R s m args below meth c H locs la F Wd hS hl hc
  exact lv_i2l F.1 F.2.1 hd rfl (k G p e R s m args below meth c H locs la F Wd hS hl hc)
theorem tq_l2i {x : Int64} (hd : tq_D M.2.1 pc (.l2i) 1 nx)  (k : tq_X S M d c0 nx ls (.int x.toInt32 :: st) σ Q) : tq_X S M d c0 pc ls (.long x :: st) σ Q := by
  obtain ⟨hd, rfl⟩ := hd
  intro G p e R s m args below meth c H locs la F Wd hS hl hc
  exact lv_l2i F.1 F.2.1 hd rfl (k G p e R s m args below meth c H locs la F Wd hS hl hc)
theorem tq_i2b {x : Int32} (hd : tq_D M.2.1 pc (.i2b) 1 nx)  (k : tq_X S M d c0 nx ls (.int x.toInt8.toInt32 :: st) σ Q) : tq_X S M d c0 pc ls (.int x :: st) σ Q := by
  obtain ⟨hd, rfl⟩ := hd
  intro G p e R s m args below meth c H locs la F Wd hS hl hc
  exact lv_i2b F.1 F.2.1 hd rfl (k G p e R s m args below meth c H locs la F Wd hS hl hc)
theorem tq_i2c {x v : Int32} (hd : tq_D M.2.1 pc (.i2c) 1 nx) (hv : (x.toUInt32 % 65536).toInt32 = v) (k : tq_X S M d c0 nx ls (.int v :: st) σ Q) : tq_X S M d c0 pc ls (.int x :: st) σ Q := by
  obtain ⟨hd, rfl⟩ := hd
  intro G p e R s m args below meth c H locs la F Wd hS hl hc
  exact lv_i2c F.1 F.2.1 hd hv (k G p e R s m args below meth c H locs la F Wd hS hl hc)
theorem tq_cat (G : tq_G) (v : Value) : (tq_cv G v).category = v.category := by cases v <;> rfl
theorem tq_dup {v : Value} (hd : tq_D M.2.1 pc (.dup) 1 nx) (hv : v.category = 1) (k : tq_X S M d c0 nx ls (v :: v :: st) σ Q) : tq_X S M d c0 pc ls (v :: st) σ Q := by
  obtain ⟨hd, rfl⟩ := hd
  intro G p e R s m args below meth c H locs la F Wd hS hl hc
  exact lv_dup F.1 F.2.1 hd ((tq_cat G v).trans hv) (k G p e R s m args below meth c H locs la F Wd hS hl hc)
theorem tq_pop {v : Value} (hd : tq_D M.2.1 pc (.pop) 1 nx) (hv : v.category = 1) (k : tq_X S M d c0 nx ls (st) σ Q) : tq_X S M d c0 pc ls (v :: st) σ Q := by
  obtain ⟨hd, rfl⟩ := hd
  intro G p e R s m args below meth c H locs la F Wd hS hl hc
  exact lv_pop F.1 F.2.1 hd ((tq_cat G v).trans hv) (k G p e R s m args below meth c H locs la F Wd hS hl hc)
theorem tq_dup2 {v w : Value} (hd : tq_D M.2.1 pc (.dup2) 1 nx) (hv : v.category = 1) (hw : w.category = 1) (k : tq_X S M d c0 nx ls (v :: w :: v :: w :: st) σ Q) : tq_X S M d c0 pc ls (v :: w :: st) σ Q := by
  obtain ⟨hd, rfl⟩ := hd
  intro G p e R s m args below meth c H locs la F Wd hS hl hc
  exact lv_dup2_11 F.1 F.2.1 hd ((tq_cat G v).trans hv) ((tq_cat G w).trans hw) (k G p e R s m args below meth c H locs la F Wd hS hl hc)
theorem tq_if_eq {x : Int32} (hd : tq_J M.2.1 pc (.ifCond .eq) tgt nx) (kt : x = 0 → tq_X S M d c0 tgt ls st σ Q) (kf : ¬ (x = 0) → tq_X S M d c0 nx ls st σ Q) : tq_X S M d c0 pc ls (.int x :: st) σ Q := by
  obtain ⟨off, hd, ht, rfl⟩ := hd
  intro G p e R s m args below meth c H locs la F Wd hS hl hc
  exact lv_if_eq F.1 F.2.1 hd ht (fun h => kt h G p e R s m args below meth c H locs la F Wd hS hl hc) (fun h => kf h G p e R s m args below meth c H locs la F Wd hS hl hc)
theorem tq_if_ne {x : Int32} (hd : tq_J M.2.1 pc (.ifCond .ne) tgt nx) (kt : ¬ x = 0 → tq_X S M d c0 tgt ls st σ Q) (kf : x = 0 → tq_X S M d c0 nx ls st σ Q) : tq_X S M d c0 pc ls (.int x :: st) σ Q := by
  obtain ⟨off, hd, ht, rfl⟩ := hd
  intro G p e R s m args below meth c H locs la F Wd hS hl hc
  exact lv_if_ne F.1 F.2.1 hd ht (fun h => kt h G p e R s m args below meth c H locs la F Wd hS hl hc) (fun h => kf h G p e R s m args below meth c H locs la F Wd hS hl hc)
theorem tq_if_lt {x : Int32} (hd : tq_J M.2.1 pc (.ifCond .lt) tgt nx) (kt : x < 0 → tq_X S M d c0 tgt ls st σ Q) (kf : ¬ (x < 0) → tq_X S M d c0 nx ls st σ Q) : tq_X S M d c0 pc ls (.int x :: st) σ Q := by
  obtain ⟨off, hd, ht, rfl⟩ := hd
  intro G p e R s m args below meth c H locs la F Wd hS hl hc
  exact lv_if_lt F.1 F.2.1 hd ht (fun h => kt h G p e R s m args below meth c H locs la F Wd hS hl hc) (fun h => kf h G p e R s m args below meth c H locs la F Wd hS hl hc)
theorem tq_if_ge {x : Int32} (hd : tq_J M.2.1 pc (.ifCond .ge) tgt nx) (kt : 0 ≤ x → tq_X S M d c0 tgt ls st σ Q) (kf : ¬ (0 ≤ x) → tq_X S M d c0 nx ls st σ Q) : tq_X S M d c0 pc ls (.int x :: st) σ Q := by
  obtain ⟨off, hd, ht, rfl⟩ := hd
  intro G p e R s m args below meth c H locs la F Wd hS hl hc
  exact lv_if_ge F.1 F.2.1 hd ht (fun h => kt h G p e R s m args below meth c H locs la F Wd hS hl hc) (fun h => kf h G p e R s m args below meth c H locs la F Wd hS hl hc)
theorem tq_if_gt {x : Int32} (hd : tq_J M.2.1 pc (.ifCond .gt) tgt nx) (kt : 0 < x → tq_X S M d c0 tgt ls st σ Q) (kf : ¬ (0 < x) → tq_X S M d c0 nx ls st σ Q) : tq_X S M d c0 pc ls (.int x :: st) σ Q := by
  obtain ⟨off, hd, ht, rfl⟩ := hd
  intro G p e R s m args below meth c H locs la F Wd hS hl hc
  exact lv_if_gt F.1 F.2.1 hd ht (fun h => kt h G p e R s m args below meth c H locs la F Wd hS hl hc) (fun h => kf h G p e R s m args below meth c H locs la F Wd hS hl hc)
theorem tq_if_le {x : Int32} (hd : tq_J M.2.1 pc (.ifCond .le) tgt nx) (kt : x ≤ 0 → tq_X S M d c0 tgt ls st σ Q) (kf : ¬ (x ≤ 0) → tq_X S M d c0 nx ls st σ Q) : tq_X S M d c0 pc ls (.int x :: st) σ Q := by
  obtain ⟨off, hd, ht, rfl⟩ := hd
  intro G p e R s m args below meth c H locs la F Wd hS hl hc
  exact lv_if_le F.1 F.2.1 hd ht (fun h => kt h G p e R s m args below meth c H locs la F Wd hS hl hc) (fun h => kf h G p e R s m args below meth c H locs la F Wd hS hl hc)
theorem tq_icmp_eq {x y : Int32} (hd : tq_J M.2.1 pc (.if_icmp .eq) tgt nx) (kt : x = y → tq_X S M d c0 tgt ls st σ Q) (kf : ¬ (x = y) → tq_X S M d c0 nx ls st σ Q) : tq_X S M d c0 pc ls (.int y :: .int x :: st) σ Q := by
  obtain ⟨off, hd, ht, rfl⟩ := hd
  intro G p e R s m args below meth c H locs la F Wd hS hl hc
  exact lv_icmp_eq F.1 F.2.1 hd ht (fun h => kt h G p e R s m args below meth c H locs la F Wd hS hl hc) (fun h => kf h G p e R s m args below meth c H locs la F Wd hS hl hc)
theorem tq_icmp_ne {x y : Int32} (hd : tq_J M.2.1 pc (.if_icmp .ne) tgt nx) (kt : ¬ x = y → tq_X S M d c0 tgt ls st σ Q) (kf : x = y → tq_X S M d c0 nx ls st σ Q) : tq_X S M d c0 pc ls (.int y :: .int x :: st) σ Q := by
  obtain ⟨off, hd, ht, rfl⟩ := hd
  intro G p e R s m args below meth c H locs la F Wd hS hl hc
  exact lv_icmp_ne F.1 F.2.1 hd ht (fun h => kt h G p e R s m args below meth c H locs la F Wd hS hl hc) (fun h => kf h G p e R s m args below meth c H locs la F Wd hS hl hc)
theorem tq_icmp_lt {x y : Int32} (hd : tq_J M.2.1 pc (.if_icmp .lt) tgt nx) (kt : x < y → tq_X S M d c0 tgt ls st σ Q) (kf : ¬ (x < y) → tq_X S M d c0 nx ls st σ Q) : tq_X S M d c0 pc ls (.int y :: .int x :: st) σ Q := by
  obtain ⟨off, hd, ht, rfl⟩ := hd
  intro G p e R s m args below meth c H locs la F Wd hS hl hc
  exact lv_icmp_lt F.1 F.2.1 hd ht (fun h => kt h G p e R s m args below meth c H locs la F Wd hS hl hc) (fun h => kf h G p e R s m args below meth c H locs la F Wd hS hl hc)
theorem tq_icmp_ge {x y : Int32} (hd : tq_J M.2.1 pc (.if_icmp .ge) tgt nx) (kt : y ≤ x → tq_X S M d c0 tgt ls st σ Q) (kf : ¬ (y ≤ x) → tq_X S M d c0 nx ls st σ Q) : tq_X S M d c0 pc ls (.int y :: .int x :: st) σ Q := by
  obtain ⟨off, hd, ht, rfl⟩ := hd
  intro G p e R s m args below meth c H locs la F Wd hS hl hc
  exact lv_icmp_ge F.1 F.2.1 hd ht (fun h => kt h G p e R s m args below meth c H locs la F Wd hS hl hc) (fun h => kf h G p e R s m args below meth c H locs la F Wd hS hl hc)
theorem tq_icmp_gt {x y : Int32} (hd : tq_J M.2.1 pc (.if_icmp .gt) tgt nx) (kt : y < x → tq_X S M d c0 tgt ls st σ Q) (kf : ¬ (y < x) → tq_X S M d c0 nx ls st σ Q) : tq_X S M d c0 pc ls (.int y :: .int x :: st) σ Q := by
  obtain ⟨off, hd, ht, rfl⟩ := hd
  intro G p e R s m args below meth c H locs la F Wd hS hl hc
  exact lv_icmp_gt F.1 F.2.1 hd ht (fun h => kt h G p e R s m args below meth c H locs la F Wd hS hl hc) (fun h => kf h G p e R s m args below meth c H locs la F Wd hS hl hc)
theorem tq_icmp_le {x y : Int32} (hd : tq_J M.2.1 pc (.if_icmp .le) tgt nx) (kt : x ≤ y → tq_X S M d c0 tgt ls st σ Q) (kf : ¬ (x ≤ y) → tq_X S M d c0 nx ls st σ Q) : tq_X S M d c0 pc ls (.int y :: .int x :: st) σ Q := by
  obtain ⟨off, hd, ht, rfl⟩ := hd
  intro G p e R s m args below meth c H locs la F Wd hS hl hc
  exact lv_icmp_le F.1 F.2.1 hd ht (fun h => kt h G p e R s m args below meth c H locs la F Wd hS hl hc) (fun h => kf h G p e R s m args below meth c H locs la F Wd hS hl hc)
theorem tq_goto (hd : tq_J M.2.1 pc .goto tgt nx) (k : tq_X S M d c0 tgt ls st σ Q) : tq_X S M d c0 pc ls st σ Q := by
  obtain ⟨off, hd, ht, rfl⟩ := hd
  intro G p e R s m args below meth c H locs la F Wd hS hl hc
  exact lv_goto F.1 F.2.1 hd ht (k G p e R s m args below meth c H locs la F Wd hS hl hc)
theorem tq_ifnullR {a : Nat} (hd : tq_J M.2.1 pc .ifnull tgt nx) (k : tq_X S M d c0 nx ls st σ Q) : tq_X S M d c0 pc ls (.ref a :: st) σ Q := by
  obtain ⟨off, hd, ht, rfl⟩ := hd
  intro G p e R s m args below meth c H locs la F Wd hS hl hc
  exact lv_ifnull F.1 F.2.1 hd (k G p e R s m args below meth c H locs la F Wd hS hl hc)
theorem tq_ifnullN (hd : tq_J M.2.1 pc .ifnull tgt nx) (k : tq_X S M d c0 tgt ls st σ Q) : tq_X S M d c0 pc ls (.null :: st) σ Q := by
  obtain ⟨off, hd, ht, rfl⟩ := hd
  intro G p e R s m args below meth c H locs la F Wd hS hl hc
  exact lv_ifnullN F.1 F.2.1 hd ht (k G p e R s m args below meth c H locs la F Wd hS hl hc)
theorem tq_ifnonnullR {a : Nat} (hd : tq_J M.2.1 pc .ifnonnull tgt nx) (k : tq_X S M d c0 tgt ls st σ Q) : tq_X S M d c0 pc ls (.ref a :: st) σ Q := by
  obtain ⟨off, hd, ht, rfl⟩ := hd
  intro G p e R s m args below meth c H locs la F Wd hS hl hc
  exact lv_ifnonnull F.1 F.2.1 hd ht (k G p e R s m args below meth c H locs la F Wd hS hl hc)
theorem tq_ifnonnullN (hd : tq_J M.2.1 pc .ifnonnull tgt nx) (k : tq_X S M d c0 nx ls st σ Q) : tq_X S M d c0 pc ls (.null :: st) σ Q := by
  obtain ⟨off, hd, ht, rfl⟩ := hd
  intro G p e R s m args below meth c H locs la F Wd hS hl hc
  exact lv_ifnonnullN F.1 F.2.1 hd (k G p e R s m args below meth c H locs la F Wd hS hl hc)
theorem tq_swIn {dflt lo hi : Int} {offs : Array Int} {len : Nat} {x : Int32} (off : Int) (hd : decode M.2.1 pc = .ok (.tableswitch dflt lo hi offs, len)) (h1 : ¬ x.toInt < lo) (h2 : ¬ hi < x.toInt) (ho : offs[(x.toInt - lo).toNat]? = some off) (ht : (pc : Int) + off = (tgt : Int)) (k : tq_X S M d c0 tgt ls st σ Q) : tq_X S M d c0 pc ls (.int x :: st) σ Q := by
  intro G p e R s m args below meth c H locs la F Wd hS hl hc
  exact lv_tableIn F.1 F.2.1 hd h1 h2 ho ht (k G p e R s m args below meth c H locs la F Wd hS hl hc)
theorem tq_swOut {dflt lo hi : Int} {offs : Array Int} {len : Nat} {x : Int32} (hd : decode M.2.1 pc = .ok (.tableswitch dflt lo hi offs, len)) (h : x.toInt < lo ∨ hi < x.toInt) (ht : (pc : Int) + dflt = (tgt : Int)) (k : tq_X S M d c0 tgt ls st σ Q) : tq_X S M d c0 pc ls (.int x :: st) σ Q := by
  intro G p e R s m args below meth c H locs la F Wd hS hl hc
  exact lv_tableOut F.1 F.2.1 hd h ht (k G p e R s m args below meth c H locs la F Wd hS hl hc)
end TQ1
