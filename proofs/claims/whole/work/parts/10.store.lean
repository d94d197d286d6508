/-! THE STORE BEHIND THE CONSTRUCTORS: its cells, by program; the rules over (ints, longs) alone. -/
def tq_shl : List Nat := [11, 0, 102, 100, 113, 120, 114, 119, 3, 10, 100, 100, 100, 4, 100, 100, 9, 100, 3, 10, 100, 100, 100, 4, 100, 100, 9, 100, 110, 103, 7, 102, 3, 10, 100, 100, 100, 4, 100, 100, 9, 100, 100, 8, 3, 5, 101, 100, 6, 2, 101, 100, 1, 100, 101, 0, 102, 100, 113, 120, 114, 119, 3, 10, 100, 100, 100, 4, 100, 100, 9, 100, 3, 10, 100, 100, 100, 4, 100, 100, 9, 100, 0, 102, 100, 113, 120, 114, 119, 3, 10, 100, 100, 100, 4, 100, 100, 9, 100, 3, 10, 100, 100, 100, 4, 100, 100, 9, 100, 0, 102, 100, 113, 120, 114, 119, 3, 10, 100, 100, 100, 4, 100, 100, 9, 100, 3, 10, 100, 100, 100, 4, 100, 100, 9, 100, 12, 100, 103, 100, 100, 103, 100, 100, 100, 100, 100, 100, 100, 101, 100, 100, 100, 100]
def tq_lnl : List Nat := [0, 0, 600, 4, 2, 2, 2, 2, 0, 0, 40, 40, 40, 0, 8, 8, 0, 8, 0, 0, 40, 40, 40, 0, 8, 8, 0, 8, 3, 3, 0, 600, 0, 0, 40, 40, 40, 0, 8, 8, 0, 8, 3, 0, 0, 0, 3, 3, 0, 0, 10, 10, 0, 8, 49, 0, 600, 4, 2, 2, 2, 2, 0, 0, 40, 40, 40, 0, 8, 8, 0, 8, 0, 0, 40, 40, 40, 0, 8, 8, 0, 8, 0, 600, 4, 2, 2, 2, 2, 0, 0, 40, 40, 40, 0, 8, 8, 0, 8, 0, 0, 40, 40, 40, 0, 8, 8, 0, 8, 0, 600, 4, 2, 2, 2, 2, 0, 0, 40, 40, 40, 0, 8, 8, 0, 8, 0, 0, 40, 40, 40, 0, 8, 8, 0, 8, 0, 4016, 3, 121, 192, 48, 48, 48, 2, 2, 2, 3, 3, 4, 2, 10, 256, 256]
def tq_rl : List (List (Nat × Nat)) := [[(0, 1), (1, 28), (2, 29), (3, 30), (4, 43), (5, 45), (6, 48), (7, 49), (8, 52), (9, 54)], [(0, 2), (4, 3), (5, 4), (6, 5), (7, 6), (8, 7)], [], [], [(0, 8), (1, 18)], [(0, 9), (1, 19)], [(0, 13), (1, 23)], [(0, 16), (1, 26)], [], [(1, 10), (2, 11), (3, 12)], [], [], [], [(1, 14), (2, 15)], [], [], [(1, 17)], [], [], [(1, 20), (2, 21), (3, 22)], [], [], [], [(1, 24), (2, 25)], [], [], [(1, 27)], [], [(0, 55), (1, 82), (2, 109)], [], [(0, 31), (1, 32), (2, 33), (3, 37), (4, 40), (5, 42)], [], [], [(1, 34), (2, 35), (3, 36)], [], [], [], [(1, 38), (2, 39)], [], [], [(1, 41)], [], [], [(0, 44)], [], [(0, 46), (1, 47)], [], [], [], [(0, 50), (1, 51)], [], [], [(0, 53)], [], [], [(0, 56), (4, 57), (5, 58), (6, 59), (7, 60), (8, 61)], [], [], [(0, 62), (1, 72)], [(0, 63), (1, 73)], [(0, 67), (1, 77)], [(0, 70), (1, 80)], [], [(1, 64), (2, 65), (3, 66)], [], [], [], [(1, 68), (2, 69)], [], [], [(1, 71)], [], [], [(1, 74), (2, 75), (3, 76)], [], [], [], [(1, 78), (2, 79)], [], [], [(1, 81)], [], [(0, 83), (4, 84), (5, 85), (6, 86), (7, 87), (8, 88)], [], [], [(0, 89), (1, 99)], [(0, 90), (1, 100)], [(0, 94), (1, 104)], [(0, 97), (1, 107)], [], [(1, 91), (2, 92), (3, 93)], [], [], [], [(1, 95), (2, 96)], [], [], [(1, 98)], [], [], [(1, 101), (2, 102), (3, 103)], [], [], [], [(1, 105), (2, 106)], [], [], [(1, 108)], [], [(0, 110), (4, 111), (5, 112), (6, 113), (7, 114), (8, 115)], [], [], [(0, 116), (1, 126)], [(0, 117), (1, 127)], [(0, 121), (1, 131)], [(0, 124), (1, 134)], [], [(1, 118), (2, 119), (3, 120)], [], [], [], [(1, 122), (2, 123)], [], [], [(1, 125)], [], [], [(1, 128), (2, 129), (3, 130)], [], [], [], [(1, 132), (2, 133)], [], [], [(1, 135)], [], [(0, 137), (1, 138), (11, 139), (15, 140), (16, 141), (17, 142), (18, 143), (20, 144), (21, 145), (25, 146), (26, 147), (27, 148), (30, 149), (32, 150), (34, 151), (36, 152), (37, 153)], [], [], [], [], [], [], [], [], [], [], [], [], [], [], [], [], []]
def tq_sh0 (a : Nat) : Nat := tq_shl.getD a 99
def tq_ln0 (a : Nat) : Nat := tq_lnl.getD a 0
def tq_r0 (a k : Nat) : Option Nat := (tq_rl.getD a []).lookup k
def tq_rg (a k : Nat) : Nat := (tq_r0 a k).getD 0
abbrev tq_k0 : Nat × Nat := (154, 9757)
abbrev tq_PI : Type := Nat → Nat → Int32
abbrev tq_PL : Type := Nat → Nat → Int64
abbrev tq_st (I : tq_PI) (L : tq_PL) : tq_S := (tq_k0, (tq_sh0, tq_ln0, tq_r0), I, L)
def tq_Q (Q : Option Value → tq_PI → tq_PL → Prop) : Option Value → tq_S → Prop := fun r σ => ∃ (I : tq_PI) (L : tq_PL), σ = tq_st I L ∧ Q r I L
theorem tq_lt154 {a : Nat} (h : tq_sh0 a ≠ 99) : a < 154 := by
  refine Nat.not_le.mp fun q => h ?_
  unfold tq_sh0
  rw [List.getD_eq_getElem?_getD, List.getElem?_eq_none (by exact q)]
  rfl
theorem hp_0_0 {a : Nat} (h : tq_sh0 a = 0) : tq_r0 a 0 = some (tq_rg a 0) ∧ tq_sh0 (tq_rg a 0) = 102 ∧ tq_ln0 (tq_rg a 0) = 600 := (by decide +kernel : ∀ a, a < 154 → tq_sh0 a = 0 → (tq_r0 a 0 = some (tq_rg a 0) ∧ tq_sh0 (tq_rg a 0) = 102 ∧ tq_ln0 (tq_rg a 0) = 600)) a (tq_lt154 (by omega)) h
theorem hp_0_4 {a : Nat} (h : tq_sh0 a = 0) : tq_r0 a 4 = some (tq_rg a 4) ∧ tq_sh0 (tq_rg a 4) = 100 ∧ tq_ln0 (tq_rg a 4) = 4 := (by decide +kernel : ∀ a, a < 154 → tq_sh0 a = 0 → (tq_r0 a 4 = some (tq_rg a 4) ∧ tq_sh0 (tq_rg a 4) = 100 ∧ tq_ln0 (tq_rg a 4) = 4)) a (tq_lt154 (by omega)) h
theorem hp_0_5 {a : Nat} (h : tq_sh0 a = 0) : tq_r0 a 5 = some (tq_rg a 5) ∧ tq_sh0 (tq_rg a 5) = 113 ∧ tq_ln0 (tq_rg a 5) = 2 := (by decide +kernel : ∀ a, a < 154 → tq_sh0 a = 0 → (tq_r0 a 5 = some (tq_rg a 5) ∧ tq_sh0 (tq_rg a 5) = 113 ∧ tq_ln0 (tq_rg a 5) = 2)) a (tq_lt154 (by omega)) h
theorem hp_0_6 {a : Nat} (h : tq_sh0 a = 0) : tq_r0 a 6 = some (tq_rg a 6) ∧ tq_sh0 (tq_rg a 6) = 120 ∧ tq_ln0 (tq_rg a 6) = 2 := (by decide +kernel : ∀ a, a < 154 → tq_sh0 a = 0 → (tq_r0 a 6 = some (tq_rg a 6) ∧ tq_sh0 (tq_rg a 6) = 120 ∧ tq_ln0 (tq_rg a 6) = 2)) a (tq_lt154 (by omega)) h
theorem hp_0_7 {a : Nat} (h : tq_sh0 a = 0) : tq_r0 a 7 = some (tq_rg a 7) ∧ tq_sh0 (tq_rg a 7) = 114 ∧ tq_ln0 (tq_rg a 7) = 2 := (by decide +kernel : ∀ a, a < 154 → tq_sh0 a = 0 → (tq_r0 a 7 = some (tq_rg a 7) ∧ tq_sh0 (tq_rg a 7) = 114 ∧ tq_ln0 (tq_rg a 7) = 2)) a (tq_lt154 (by omega)) h
theorem hp_0_8 {a : Nat} (h : tq_sh0 a = 0) : tq_r0 a 8 = some (tq_rg a 8) ∧ tq_sh0 (tq_rg a 8) = 119 ∧ tq_ln0 (tq_rg a 8) = 2 := (by decide +kernel : ∀ a, a < 154 → tq_sh0 a = 0 → (tq_r0 a 8 = some (tq_rg a 8) ∧ tq_sh0 (tq_rg a 8) = 119 ∧ tq_ln0 (tq_rg a 8) = 2)) a (tq_lt154 (by omega)) h
theorem hp_1_0 {a : Nat} (h : tq_sh0 a = 1) : tq_r0 a 0 = some (tq_rg a 0) ∧ tq_sh0 (tq_rg a 0) = 100 ∧ tq_ln0 (tq_rg a 0) = 8 := (by decide +kernel : ∀ a, a < 154 → tq_sh0 a = 1 → (tq_r0 a 0 = some (tq_rg a 0) ∧ tq_sh0 (tq_rg a 0) = 100 ∧ tq_ln0 (tq_rg a 0) = 8)) a (tq_lt154 (by omega)) h
theorem hp_2_0 {a : Nat} (h : tq_sh0 a = 2) : tq_r0 a 0 = some (tq_rg a 0) ∧ tq_sh0 (tq_rg a 0) = 101 ∧ tq_ln0 (tq_rg a 0) = 10 := (by decide +kernel : ∀ a, a < 154 → tq_sh0 a = 2 → (tq_r0 a 0 = some (tq_rg a 0) ∧ tq_sh0 (tq_rg a 0) = 101 ∧ tq_ln0 (tq_rg a 0) = 10)) a (tq_lt154 (by omega)) h
theorem hp_2_1 {a : Nat} (h : tq_sh0 a = 2) : tq_r0 a 1 = some (tq_rg a 1) ∧ tq_sh0 (tq_rg a 1) = 100 ∧ tq_ln0 (tq_rg a 1) = 10 := (by decide +kernel : ∀ a, a < 154 → tq_sh0 a = 2 → (tq_r0 a 1 = some (tq_rg a 1) ∧ tq_sh0 (tq_rg a 1) = 100 ∧ tq_ln0 (tq_rg a 1) = 10)) a (tq_lt154 (by omega)) h
theorem hp_4_1 {a : Nat} (h : tq_sh0 a = 4) : tq_r0 a 1 = some (tq_rg a 1) ∧ tq_sh0 (tq_rg a 1) = 100 ∧ tq_ln0 (tq_rg a 1) = 8 := (by decide +kernel : ∀ a, a < 154 → tq_sh0 a = 4 → (tq_r0 a 1 = some (tq_rg a 1) ∧ tq_sh0 (tq_rg a 1) = 100 ∧ tq_ln0 (tq_rg a 1) = 8)) a (tq_lt154 (by omega)) h
theorem hp_4_2 {a : Nat} (h : tq_sh0 a = 4) : tq_r0 a 2 = some (tq_rg a 2) ∧ tq_sh0 (tq_rg a 2) = 100 ∧ tq_ln0 (tq_rg a 2) = 8 := (by decide +kernel : ∀ a, a < 154 → tq_sh0 a = 4 → (tq_r0 a 2 = some (tq_rg a 2) ∧ tq_sh0 (tq_rg a 2) = 100 ∧ tq_ln0 (tq_rg a 2) = 8)) a (tq_lt154 (by omega)) h
theorem hp_5_0 {a : Nat} (h : tq_sh0 a = 5) : tq_r0 a 0 = some (tq_rg a 0) ∧ tq_sh0 (tq_rg a 0) = 101 ∧ tq_ln0 (tq_rg a 0) = 3 := (by decide +kernel : ∀ a, a < 154 → tq_sh0 a = 5 → (tq_r0 a 0 = some (tq_rg a 0) ∧ tq_sh0 (tq_rg a 0) = 101 ∧ tq_ln0 (tq_rg a 0) = 3)) a (tq_lt154 (by omega)) h
theorem hp_5_1 {a : Nat} (h : tq_sh0 a = 5) : tq_r0 a 1 = some (tq_rg a 1) ∧ tq_sh0 (tq_rg a 1) = 100 ∧ tq_ln0 (tq_rg a 1) = 3 := (by decide +kernel : ∀ a, a < 154 → tq_sh0 a = 5 → (tq_r0 a 1 = some (tq_rg a 1) ∧ tq_sh0 (tq_rg a 1) = 100 ∧ tq_ln0 (tq_rg a 1) = 3)) a (tq_lt154 (by omega)) h
theorem hp_7_0 {a : Nat} (h : tq_sh0 a = 7) : tq_r0 a 0 = some (tq_rg a 0) ∧ tq_sh0 (tq_rg a 0) = 102 ∧ tq_ln0 (tq_rg a 0) = 600 := (by decide +kernel : ∀ a, a < 154 → tq_sh0 a = 7 → (tq_r0 a 0 = some (tq_rg a 0) ∧ tq_sh0 (tq_rg a 0) = 102 ∧ tq_ln0 (tq_rg a 0) = 600)) a (tq_lt154 (by omega)) h
theorem hp_7_1 {a : Nat} (h : tq_sh0 a = 7) : tq_r0 a 1 = some (tq_rg a 1) ∧ tq_sh0 (tq_rg a 1) = 3 ∧ tq_ln0 (tq_rg a 1) = 0 := (by decide +kernel : ∀ a, a < 154 → tq_sh0 a = 7 → (tq_r0 a 1 = some (tq_rg a 1) ∧ tq_sh0 (tq_rg a 1) = 3 ∧ tq_ln0 (tq_rg a 1) = 0)) a (tq_lt154 (by omega)) h
theorem hp_7_2 {a : Nat} (h : tq_sh0 a = 7) : tq_r0 a 2 = some (tq_rg a 2) ∧ tq_sh0 (tq_rg a 2) = 10 ∧ tq_ln0 (tq_rg a 2) = 0 := (by decide +kernel : ∀ a, a < 154 → tq_sh0 a = 7 → (tq_r0 a 2 = some (tq_rg a 2) ∧ tq_sh0 (tq_rg a 2) = 10 ∧ tq_ln0 (tq_rg a 2) = 0)) a (tq_lt154 (by omega)) h
theorem hp_7_3 {a : Nat} (h : tq_sh0 a = 7) : tq_r0 a 3 = some (tq_rg a 3) ∧ tq_sh0 (tq_rg a 3) = 4 ∧ tq_ln0 (tq_rg a 3) = 0 := (by decide +kernel : ∀ a, a < 154 → tq_sh0 a = 7 → (tq_r0 a 3 = some (tq_rg a 3) ∧ tq_sh0 (tq_rg a 3) = 4 ∧ tq_ln0 (tq_rg a 3) = 0)) a (tq_lt154 (by omega)) h
theorem hp_7_4 {a : Nat} (h : tq_sh0 a = 7) : tq_r0 a 4 = some (tq_rg a 4) ∧ tq_sh0 (tq_rg a 4) = 9 ∧ tq_ln0 (tq_rg a 4) = 0 := (by decide +kernel : ∀ a, a < 154 → tq_sh0 a = 7 → (tq_r0 a 4 = some (tq_rg a 4) ∧ tq_sh0 (tq_rg a 4) = 9 ∧ tq_ln0 (tq_rg a 4) = 0)) a (tq_lt154 (by omega)) h
theorem hp_7_5 {a : Nat} (h : tq_sh0 a = 7) : tq_r0 a 5 = some (tq_rg a 5) ∧ tq_sh0 (tq_rg a 5) = 100 ∧ tq_ln0 (tq_rg a 5) = 3 := (by decide +kernel : ∀ a, a < 154 → tq_sh0 a = 7 → (tq_r0 a 5 = some (tq_rg a 5) ∧ tq_sh0 (tq_rg a 5) = 100 ∧ tq_ln0 (tq_rg a 5) = 3)) a (tq_lt154 (by omega)) h
theorem hp_8_0 {a : Nat} (h : tq_sh0 a = 8) : tq_r0 a 0 = some (tq_rg a 0) ∧ tq_sh0 (tq_rg a 0) = 3 ∧ tq_ln0 (tq_rg a 0) = 0 := (by decide +kernel : ∀ a, a < 154 → tq_sh0 a = 8 → (tq_r0 a 0 = some (tq_rg a 0) ∧ tq_sh0 (tq_rg a 0) = 3 ∧ tq_ln0 (tq_rg a 0) = 0)) a (tq_lt154 (by omega)) h
theorem hp_9_1 {a : Nat} (h : tq_sh0 a = 9) : tq_r0 a 1 = some (tq_rg a 1) ∧ tq_sh0 (tq_rg a 1) = 100 ∧ tq_ln0 (tq_rg a 1) = 8 := (by decide +kernel : ∀ a, a < 154 → tq_sh0 a = 9 → (tq_r0 a 1 = some (tq_rg a 1) ∧ tq_sh0 (tq_rg a 1) = 100 ∧ tq_ln0 (tq_rg a 1) = 8)) a (tq_lt154 (by omega)) h
theorem hp_10_1 {a : Nat} (h : tq_sh0 a = 10) : tq_r0 a 1 = some (tq_rg a 1) ∧ tq_sh0 (tq_rg a 1) = 100 ∧ tq_ln0 (tq_rg a 1) = 40 := (by decide +kernel : ∀ a, a < 154 → tq_sh0 a = 10 → (tq_r0 a 1 = some (tq_rg a 1) ∧ tq_sh0 (tq_rg a 1) = 100 ∧ tq_ln0 (tq_rg a 1) = 40)) a (tq_lt154 (by omega)) h
theorem hp_10_2 {a : Nat} (h : tq_sh0 a = 10) : tq_r0 a 2 = some (tq_rg a 2) ∧ tq_sh0 (tq_rg a 2) = 100 ∧ tq_ln0 (tq_rg a 2) = 40 := (by decide +kernel : ∀ a, a < 154 → tq_sh0 a = 10 → (tq_r0 a 2 = some (tq_rg a 2) ∧ tq_sh0 (tq_rg a 2) = 100 ∧ tq_ln0 (tq_rg a 2) = 40)) a (tq_lt154 (by omega)) h
theorem hp_10_3 {a : Nat} (h : tq_sh0 a = 10) : tq_r0 a 3 = some (tq_rg a 3) ∧ tq_sh0 (tq_rg a 3) = 100 ∧ tq_ln0 (tq_rg a 3) = 40 := (by decide +kernel : ∀ a, a < 154 → tq_sh0 a = 10 → (tq_r0 a 3 = some (tq_rg a 3) ∧ tq_sh0 (tq_rg a 3) = 100 ∧ tq_ln0 (tq_rg a 3) = 40)) a (tq_lt154 (by omega)) h
theorem hp_11_0 {a : Nat} (h : tq_sh0 a = 11) : tq_r0 a 0 = some (tq_rg a 0) ∧ tq_sh0 (tq_rg a 0) = 0 ∧ tq_ln0 (tq_rg a 0) = 0 := (by decide +kernel : ∀ a, a < 154 → tq_sh0 a = 11 → (tq_r0 a 0 = some (tq_rg a 0) ∧ tq_sh0 (tq_rg a 0) = 0 ∧ tq_ln0 (tq_rg a 0) = 0)) a (tq_lt154 (by omega)) h
theorem hp_11_1 {a : Nat} (h : tq_sh0 a = 11) : tq_r0 a 1 = some (tq_rg a 1) ∧ tq_sh0 (tq_rg a 1) = 110 ∧ tq_ln0 (tq_rg a 1) = 3 := (by decide +kernel : ∀ a, a < 154 → tq_sh0 a = 11 → (tq_r0 a 1 = some (tq_rg a 1) ∧ tq_sh0 (tq_rg a 1) = 110 ∧ tq_ln0 (tq_rg a 1) = 3)) a (tq_lt154 (by omega)) h
theorem hp_11_2 {a : Nat} (h : tq_sh0 a = 11) : tq_r0 a 2 = some (tq_rg a 2) ∧ tq_sh0 (tq_rg a 2) = 103 ∧ tq_ln0 (tq_rg a 2) = 3 := (by decide +kernel : ∀ a, a < 154 → tq_sh0 a = 11 → (tq_r0 a 2 = some (tq_rg a 2) ∧ tq_sh0 (tq_rg a 2) = 103 ∧ tq_ln0 (tq_rg a 2) = 3)) a (tq_lt154 (by omega)) h
theorem hp_11_3 {a : Nat} (h : tq_sh0 a = 11) : tq_r0 a 3 = some (tq_rg a 3) ∧ tq_sh0 (tq_rg a 3) = 7 ∧ tq_ln0 (tq_rg a 3) = 0 := (by decide +kernel : ∀ a, a < 154 → tq_sh0 a = 11 → (tq_r0 a 3 = some (tq_rg a 3) ∧ tq_sh0 (tq_rg a 3) = 7 ∧ tq_ln0 (tq_rg a 3) = 0)) a (tq_lt154 (by omega)) h
theorem hp_11_4 {a : Nat} (h : tq_sh0 a = 11) : tq_r0 a 4 = some (tq_rg a 4) ∧ tq_sh0 (tq_rg a 4) = 8 ∧ tq_ln0 (tq_rg a 4) = 0 := (by decide +kernel : ∀ a, a < 154 → tq_sh0 a = 11 → (tq_r0 a 4 = some (tq_rg a 4) ∧ tq_sh0 (tq_rg a 4) = 8 ∧ tq_ln0 (tq_rg a 4) = 0)) a (tq_lt154 (by omega)) h
theorem hp_11_5 {a : Nat} (h : tq_sh0 a = 11) : tq_r0 a 5 = some (tq_rg a 5) ∧ tq_sh0 (tq_rg a 5) = 5 ∧ tq_ln0 (tq_rg a 5) = 0 := (by decide +kernel : ∀ a, a < 154 → tq_sh0 a = 11 → (tq_r0 a 5 = some (tq_rg a 5) ∧ tq_sh0 (tq_rg a 5) = 5 ∧ tq_ln0 (tq_rg a 5) = 0)) a (tq_lt154 (by omega)) h
theorem hp_11_6 {a : Nat} (h : tq_sh0 a = 11) : tq_r0 a 6 = some (tq_rg a 6) ∧ tq_sh0 (tq_rg a 6) = 6 ∧ tq_ln0 (tq_rg a 6) = 0 := (by decide +kernel : ∀ a, a < 154 → tq_sh0 a = 11 → (tq_r0 a 6 = some (tq_rg a 6) ∧ tq_sh0 (tq_rg a 6) = 6 ∧ tq_ln0 (tq_rg a 6) = 0)) a (tq_lt154 (by omega)) h
theorem hp_11_7 {a : Nat} (h : tq_sh0 a = 11) : tq_r0 a 7 = some (tq_rg a 7) ∧ tq_sh0 (tq_rg a 7) = 2 ∧ tq_ln0 (tq_rg a 7) = 0 := (by decide +kernel : ∀ a, a < 154 → tq_sh0 a = 11 → (tq_r0 a 7 = some (tq_rg a 7) ∧ tq_sh0 (tq_rg a 7) = 2 ∧ tq_ln0 (tq_rg a 7) = 0)) a (tq_lt154 (by omega)) h
theorem hp_11_8 {a : Nat} (h : tq_sh0 a = 11) : tq_r0 a 8 = some (tq_rg a 8) ∧ tq_sh0 (tq_rg a 8) = 1 ∧ tq_ln0 (tq_rg a 8) = 0 := (by decide +kernel : ∀ a, a < 154 → tq_sh0 a = 11 → (tq_r0 a 8 = some (tq_rg a 8) ∧ tq_sh0 (tq_rg a 8) = 1 ∧ tq_ln0 (tq_rg a 8) = 0)) a (tq_lt154 (by omega)) h
theorem hp_11_9 {a : Nat} (h : tq_sh0 a = 11) : tq_r0 a 9 = some (tq_rg a 9) ∧ tq_sh0 (tq_rg a 9) = 101 ∧ tq_ln0 (tq_rg a 9) = 49 := (by decide +kernel : ∀ a, a < 154 → tq_sh0 a = 11 → (tq_r0 a 9 = some (tq_rg a 9) ∧ tq_sh0 (tq_rg a 9) = 101 ∧ tq_ln0 (tq_rg a 9) = 49)) a (tq_lt154 (by omega)) h
theorem hp_12_0 {a : Nat} (h : tq_sh0 a = 12) : tq_r0 a 0 = some (tq_rg a 0) ∧ tq_sh0 (tq_rg a 0) = 100 ∧ tq_ln0 (tq_rg a 0) = 4016 := (by decide +kernel : ∀ a, a < 154 → tq_sh0 a = 12 → (tq_r0 a 0 = some (tq_rg a 0) ∧ tq_sh0 (tq_rg a 0) = 100 ∧ tq_ln0 (tq_rg a 0) = 4016)) a (tq_lt154 (by omega)) h
theorem hp_12_1 {a : Nat} (h : tq_sh0 a = 12) : tq_r0 a 1 = some (tq_rg a 1) ∧ tq_sh0 (tq_rg a 1) = 103 ∧ tq_ln0 (tq_rg a 1) = 3 := (by decide +kernel : ∀ a, a < 154 → tq_sh0 a = 12 → (tq_r0 a 1 = some (tq_rg a 1) ∧ tq_sh0 (tq_rg a 1) = 103 ∧ tq_ln0 (tq_rg a 1) = 3)) a (tq_lt154 (by omega)) h
theorem hp_12_11 {a : Nat} (h : tq_sh0 a = 12) : tq_r0 a 11 = some (tq_rg a 11) ∧ tq_sh0 (tq_rg a 11) = 100 ∧ tq_ln0 (tq_rg a 11) = 121 := (by decide +kernel : ∀ a, a < 154 → tq_sh0 a = 12 → (tq_r0 a 11 = some (tq_rg a 11) ∧ tq_sh0 (tq_rg a 11) = 100 ∧ tq_ln0 (tq_rg a 11) = 121)) a (tq_lt154 (by omega)) h
theorem hp_12_15 {a : Nat} (h : tq_sh0 a = 12) : tq_r0 a 15 = some (tq_rg a 15) ∧ tq_sh0 (tq_rg a 15) = 100 ∧ tq_ln0 (tq_rg a 15) = 192 := (by decide +kernel : ∀ a, a < 154 → tq_sh0 a = 12 → (tq_r0 a 15 = some (tq_rg a 15) ∧ tq_sh0 (tq_rg a 15) = 100 ∧ tq_ln0 (tq_rg a 15) = 192)) a (tq_lt154 (by omega)) h
theorem hp_12_16 {a : Nat} (h : tq_sh0 a = 12) : tq_r0 a 16 = some (tq_rg a 16) ∧ tq_sh0 (tq_rg a 16) = 103 ∧ tq_ln0 (tq_rg a 16) = 48 := (by decide +kernel : ∀ a, a < 154 → tq_sh0 a = 12 → (tq_r0 a 16 = some (tq_rg a 16) ∧ tq_sh0 (tq_rg a 16) = 103 ∧ tq_ln0 (tq_rg a 16) = 48)) a (tq_lt154 (by omega)) h
theorem hp_12_17 {a : Nat} (h : tq_sh0 a = 12) : tq_r0 a 17 = some (tq_rg a 17) ∧ tq_sh0 (tq_rg a 17) = 100 ∧ tq_ln0 (tq_rg a 17) = 48 := (by decide +kernel : ∀ a, a < 154 → tq_sh0 a = 12 → (tq_r0 a 17 = some (tq_rg a 17) ∧ tq_sh0 (tq_rg a 17) = 100 ∧ tq_ln0 (tq_rg a 17) = 48)) a (tq_lt154 (by omega)) h
theorem hp_12_18 {a : Nat} (h : tq_sh0 a = 12) : tq_r0 a 18 = some (tq_rg a 18) ∧ tq_sh0 (tq_rg a 18) = 100 ∧ tq_ln0 (tq_rg a 18) = 48 := (by decide +kernel : ∀ a, a < 154 → tq_sh0 a = 12 → (tq_r0 a 18 = some (tq_rg a 18) ∧ tq_sh0 (tq_rg a 18) = 100 ∧ tq_ln0 (tq_rg a 18) = 48)) a (tq_lt154 (by omega)) h
theorem hp_12_20 {a : Nat} (h : tq_sh0 a = 12) : tq_r0 a 20 = some (tq_rg a 20) ∧ tq_sh0 (tq_rg a 20) = 100 ∧ tq_ln0 (tq_rg a 20) = 2 := (by decide +kernel : ∀ a, a < 154 → tq_sh0 a = 12 → (tq_r0 a 20 = some (tq_rg a 20) ∧ tq_sh0 (tq_rg a 20) = 100 ∧ tq_ln0 (tq_rg a 20) = 2)) a (tq_lt154 (by omega)) h
theorem hp_12_21 {a : Nat} (h : tq_sh0 a = 12) : tq_r0 a 21 = some (tq_rg a 21) ∧ tq_sh0 (tq_rg a 21) = 100 ∧ tq_ln0 (tq_rg a 21) = 2 := (by decide +kernel : ∀ a, a < 154 → tq_sh0 a = 12 → (tq_r0 a 21 = some (tq_rg a 21) ∧ tq_sh0 (tq_rg a 21) = 100 ∧ tq_ln0 (tq_rg a 21) = 2)) a (tq_lt154 (by omega)) h
theorem hp_12_25 {a : Nat} (h : tq_sh0 a = 12) : tq_r0 a 25 = some (tq_rg a 25) ∧ tq_sh0 (tq_rg a 25) = 100 ∧ tq_ln0 (tq_rg a 25) = 2 := (by decide +kernel : ∀ a, a < 154 → tq_sh0 a = 12 → (tq_r0 a 25 = some (tq_rg a 25) ∧ tq_sh0 (tq_rg a 25) = 100 ∧ tq_ln0 (tq_rg a 25) = 2)) a (tq_lt154 (by omega)) h
theorem hp_12_26 {a : Nat} (h : tq_sh0 a = 12) : tq_r0 a 26 = some (tq_rg a 26) ∧ tq_sh0 (tq_rg a 26) = 100 ∧ tq_ln0 (tq_rg a 26) = 3 := (by decide +kernel : ∀ a, a < 154 → tq_sh0 a = 12 → (tq_r0 a 26 = some (tq_rg a 26) ∧ tq_sh0 (tq_rg a 26) = 100 ∧ tq_ln0 (tq_rg a 26) = 3)) a (tq_lt154 (by omega)) h
theorem hp_12_27 {a : Nat} (h : tq_sh0 a = 12) : tq_r0 a 27 = some (tq_rg a 27) ∧ tq_sh0 (tq_rg a 27) = 100 ∧ tq_ln0 (tq_rg a 27) = 3 := (by decide +kernel : ∀ a, a < 154 → tq_sh0 a = 12 → (tq_r0 a 27 = some (tq_rg a 27) ∧ tq_sh0 (tq_rg a 27) = 100 ∧ tq_ln0 (tq_rg a 27) = 3)) a (tq_lt154 (by omega)) h
theorem hp_12_30 {a : Nat} (h : tq_sh0 a = 12) : tq_r0 a 30 = some (tq_rg a 30) ∧ tq_sh0 (tq_rg a 30) = 101 ∧ tq_ln0 (tq_rg a 30) = 4 := (by decide +kernel : ∀ a, a < 154 → tq_sh0 a = 12 → (tq_r0 a 30 = some (tq_rg a 30) ∧ tq_sh0 (tq_rg a 30) = 101 ∧ tq_ln0 (tq_rg a 30) = 4)) a (tq_lt154 (by omega)) h
theorem hp_12_32 {a : Nat} (h : tq_sh0 a = 12) : tq_r0 a 32 = some (tq_rg a 32) ∧ tq_sh0 (tq_rg a 32) = 100 ∧ tq_ln0 (tq_rg a 32) = 2 := (by decide +kernel : ∀ a, a < 154 → tq_sh0 a = 12 → (tq_r0 a 32 = some (tq_rg a 32) ∧ tq_sh0 (tq_rg a 32) = 100 ∧ tq_ln0 (tq_rg a 32) = 2)) a (tq_lt154 (by omega)) h
theorem hp_12_34 {a : Nat} (h : tq_sh0 a = 12) : tq_r0 a 34 = some (tq_rg a 34) ∧ tq_sh0 (tq_rg a 34) = 100 ∧ tq_ln0 (tq_rg a 34) = 10 := (by decide +kernel : ∀ a, a < 154 → tq_sh0 a = 12 → (tq_r0 a 34 = some (tq_rg a 34) ∧ tq_sh0 (tq_rg a 34) = 100 ∧ tq_ln0 (tq_rg a 34) = 10)) a (tq_lt154 (by omega)) h
theorem hp_12_36 {a : Nat} (h : tq_sh0 a = 12) : tq_r0 a 36 = some (tq_rg a 36) ∧ tq_sh0 (tq_rg a 36) = 100 ∧ tq_ln0 (tq_rg a 36) = 256 := (by decide +kernel : ∀ a, a < 154 → tq_sh0 a = 12 → (tq_r0 a 36 = some (tq_rg a 36) ∧ tq_sh0 (tq_rg a 36) = 100 ∧ tq_ln0 (tq_rg a 36) = 256)) a (tq_lt154 (by omega)) h
theorem hp_12_37 {a : Nat} (h : tq_sh0 a = 12) : tq_r0 a 37 = some (tq_rg a 37) ∧ tq_sh0 (tq_rg a 37) = 100 ∧ tq_ln0 (tq_rg a 37) = 256 := (by decide +kernel : ∀ a, a < 154 → tq_sh0 a = 12 → (tq_r0 a 37 = some (tq_rg a 37) ∧ tq_sh0 (tq_rg a 37) = 100 ∧ tq_ln0 (tq_rg a 37) = 256)) a (tq_lt154 (by omega)) h
theorem hq_110 {a : Nat} (h : tq_sh0 a = 110) {i : Nat} (hi : i < 3) : tq_r0 a i = some (tq_rg a i) ∧ tq_sh0 (tq_rg a i) = 0 := (by decide +kernel : ∀ a, a < 154 → tq_sh0 a = 110 → ∀ i, i < 3 → (tq_r0 a i = some (tq_rg a i) ∧ tq_sh0 (tq_rg a i) = 0)) a (tq_lt154 (by omega)) h i hi
theorem hq_113 {a : Nat} (h : tq_sh0 a = 113) {i : Nat} (hi : i < 2) : tq_r0 a i = some (tq_rg a i) ∧ tq_sh0 (tq_rg a i) = 3 := (by decide +kernel : ∀ a, a < 154 → tq_sh0 a = 113 → ∀ i, i < 2 → (tq_r0 a i = some (tq_rg a i) ∧ tq_sh0 (tq_rg a i) = 3)) a (tq_lt154 (by omega)) h i hi
theorem hq_114 {a : Nat} (h : tq_sh0 a = 114) {i : Nat} (hi : i < 2) : tq_r0 a i = some (tq_rg a i) ∧ tq_sh0 (tq_rg a i) = 4 := (by decide +kernel : ∀ a, a < 154 → tq_sh0 a = 114 → ∀ i, i < 2 → (tq_r0 a i = some (tq_rg a i) ∧ tq_sh0 (tq_rg a i) = 4)) a (tq_lt154 (by omega)) h i hi
theorem hq_119 {a : Nat} (h : tq_sh0 a = 119) {i : Nat} (hi : i < 2) : tq_r0 a i = some (tq_rg a i) ∧ tq_sh0 (tq_rg a i) = 9 := (by decide +kernel : ∀ a, a < 154 → tq_sh0 a = 119 → ∀ i, i < 2 → (tq_r0 a i = some (tq_rg a i) ∧ tq_sh0 (tq_rg a i) = 9)) a (tq_lt154 (by omega)) h i hi
theorem hq_120 {a : Nat} (h : tq_sh0 a = 120) {i : Nat} (hi : i < 2) : tq_r0 a i = some (tq_rg a i) ∧ tq_sh0 (tq_rg a i) = 10 := (by decide +kernel : ∀ a, a < 154 → tq_sh0 a = 120 → ∀ i, i < 2 → (tq_r0 a i = some (tq_rg a i) ∧ tq_sh0 (tq_rg a i) = 10)) a (tq_lt154 (by omega)) h i hi
def tq_b (b : Bool) : Int32 := if b then 1 else 0
theorem tq_b01 (b : Bool) : tq_b b = 0 ∨ tq_b b = 1 := by cases b <;> simp [tq_b]
theorem tq_bi {i v : Int32} {n : Nat} (hv : nI n = v) (hn : n < 100000) (h : 0 ≤ i ∧ i < v) : vp_in i n := by
  subst hv
  rw [vp_in_iff]
  have h1 := Int32.le_iff_toInt_le.mp h.1
  have h2 := Int32.lt_iff_toInt_lt.mp h.2
  rw [nI_toInt (by omega)] at h2
  exact ⟨h1, h2⟩
theorem tq_bl {i v : Int32} {n : Nat} (hv : nI n = v) (hn : n < 100000) (h : 0 ≤ i ∧ i < v) : i.toNatClampNeg < n := Nat.not_le.mp fun q => tq_bi hv hn h (Or.inr q)
theorem tq_chk {α : Type} {c : Prop} {_ : Decidable c} {a : Option α} {o : α} (h : (if c then a else none) = some o) : c ∧ a = some o := by
  by_cases hc : c
  · rw [if_pos hc] at h
    exact ⟨hc, h⟩
  · rw [if_neg hc] at h
    cases h
theorem tq_oelim {α β : Type} {p : Option α} {a : β} {f : α → β} {o : β} (h : p.elim a f = o) : (p = none ∧ a = o) ∨ ∃ t, p = some t ∧ f t = o := by
  cases p with
  | none => exact Or.inl ⟨rfl, h⟩
  | some t => exact Or.inr ⟨t, rfl, h⟩
theorem tq_selim {α β γ : Type} {p : α ⊕ β} {f : α → γ} {g : β → γ} {o : γ} (h : p.elim f g = o) : (∃ t, p = .inl t ∧ f t = o) ∨ ∃ t, p = .inr t ∧ g t = o := by
  cases p with
  | inl t => exact Or.inl ⟨t, rfl, h⟩
  | inr t => exact Or.inr ⟨t, rfl, h⟩
theorem tq_ni {x v : Int32} {c : Int} (h : ¬ x = v) (hv : v.toInt = c) : x.toInt ≠ c := fun q => h (Int32.toInt_inj.mp (q.trans hv.symm))
theorem tq_inc {x c : Int32} {n : Int} (h : Int32.ofInt n = c) : x + Int32.ofInt n = x + c := by rw [h]
theorem tq_lJlt (i : Nat) : tq_lJ.getD i 0 < 100000 := by
  by_cases h : i < 11
  · exact (by decide : ∀ i, i < 11 → tq_lJ.getD i 0 < 100000) i h
  · rw [List.getD_eq_getElem?_getD, List.getElem?_eq_none (by simp [tq_lJ]; omega)]
    decide
theorem tq_sg0 : ∀ w ∈ tables_1, w ∈ lw_tbl := fun _ h => List.mem_append_right _ h
theorem tq_sg1 : ∀ w ∈ tables_1_1, w ∈ lw_tbl := fun _ h => tq_sg0 _ (List.mem_append_left _ h)
theorem tq_sg2 : ∀ w ∈ tables_1_2, w ∈ lw_tbl := fun _ h => tq_sg0 _ (List.mem_append_right _ (List.mem_append_left _ h))
theorem tq_sg3 : ∀ w ∈ tables_1_3, w ∈ lw_tbl := fun _ h => tq_sg0 _ (List.mem_append_right _ (List.mem_append_right _ (List.mem_append_left _ h)))
theorem tq_sg4 : ∀ w ∈ tables_1_4, w ∈ lw_tbl := fun _ h => tq_sg0 _ (List.mem_append_right _ (List.mem_append_right _ (List.mem_append_right _ (List.mem_append_left _ h))))
theorem tq_sg5 : ∀ w ∈ tables_1_5, w ∈ lw_tbl := fun _ h => tq_sg0 _ (List.mem_append_right _ (List.mem_append_right _ (List.mem_append_right _ (List.mem_append_right _ (List.mem_append_left _ h)))))
theorem tq_sg6 : ∀ w ∈ tables_1_6, w ∈ lw_tbl := fun _ h => tq_sg0 _ (List.mem_append_right _ (List.mem_append_right _ (List.mem_append_right _ (List.mem_append_right _ (List.mem_append_right _ (List.mem_append_left _ h))))))
theorem tq_sg7 : ∀ w ∈ tables_1_7, w ∈ lw_tbl := fun _ h => tq_sg0 _ (List.mem_append_right _ (List.mem_append_right _ (List.mem_append_right _ (List.mem_append_right _ (List.mem_append_right _ (List.mem_append_right _ (List.mem_append_left _ h)))))))
theorem tq_sg8 : ∀ w ∈ tables_1_8, w ∈ lw_tbl := fun _ h => tq_sg0 _ (List.mem_append_right _ (List.mem_append_right _ (List.mem_append_right _ (List.mem_append_right _ (List.mem_append_right _ (List.mem_append_right _ (List.mem_append_right _ h)))))))
def tq_let {α β : Type} (a : α) (f : α → β) : β := f a
theorem tq_let_elim {α β : Type} {a : α} {f : α → β} {o : β} (h : tq_let a f = o) : ∃ x, a = x ∧ f x = o := ⟨a, rfl, h⟩
/-- how many steps a loop may take: a number that no unfolding sees -/
noncomputable def tq_N : Nat := Classical.choose (⟨1000000000, rfl⟩ : ∃ n : Nat, n = 1000000000)
theorem tq_N_eq : tq_N = 1000000000 := Classical.choose_spec (⟨1000000000, rfl⟩ : ∃ n : Nat, n = 1000000000)
noncomputable def tq_n20 : Nat := Classical.choose (⟨20, rfl⟩ : ∃ n : Nat, n = 20)
theorem tq_n20_eq : tq_n20 = 20 := Classical.choose_spec (⟨20, rfl⟩ : ∃ n : Nat, n = 20)
/-- a loop: its step until it ends; at most n steps -/
def tq_it {α β : Type} (f : α → Option (α ⊕ β)) : Nat → α → Option β
  | 0, _ => none
  | n + 1, a => match f a with
    | none => none
    | some (.inl a2) => tq_it f n a2
    | some (.inr b) => some b
theorem tq_it_elim {α β : Type} {f : α → Option (α ⊕ β)} {P : α → Prop} {R : β → Prop} (step : ∀ a o, f a = some o → Sum.elim P R o → P a) : ∀ (n : Nat) (a : α) (b : β), tq_it f n a = some b → R b → P a
  | 0, a, b, h, _ => by cases h
  | n + 1, a, b, h, hb => by
    unfold tq_it at h
    cases hf : f a with
    | none => rw [hf] at h; cases h
    | some o =>
      rw [hf] at h
      cases o with
      | inl a2 => exact step a _ hf (tq_it_elim step n a2 b h hb)
      | inr b2 =>
        have : b2 = b := by simpa using h
        subst this
        exact step a _ hf hb
/-- fewer locals are known -/
def tq_le : List Value → List Value → Prop
  | [], [] => True
  | v2 :: r2, v :: r => (v2 = tq_u ∨ v2 = v) ∧ tq_le r2 r
  | _, _ => False
theorem tq_le_n : tq_le [] [] := trivial
theorem tq_le_u {r2 r : List Value} {v : Value} (h : tq_le r2 r) : tq_le (tq_u :: r2) (v :: r) := ⟨Or.inl rfl, h⟩
theorem tq_le_s {r2 r : List Value} {v : Value} (h : tq_le r2 r) : tq_le (v :: r2) (v :: r) := ⟨Or.inr rfl, h⟩
theorem tq_le_at : ∀ {l2 l : List Value} {i : Nat} {w : Value}, tq_le l2 l → l2[i]? = some w → w = tq_u ∨ l[i]? = some w
  | [], [], i, w, _, h => by simp at h
  | [], _ :: _, _, _, h, _ => h.elim
  | _ :: _, [], _, _, h, _ => h.elim
  | v2 :: r2, v :: r, 0, w, h, hw => by
    simp at hw
    subst hw
    rcases h.1 with h1 | h1
    · exact Or.inl h1
    · exact Or.inr (by simp [h1])
  | v2 :: r2, v :: r, i + 1, w, h, hw => by
    have := tq_le_at (i := i) h.2 (by simpa using hw)
    simpa using this
/-- CONTRACT over the store behind the constructors -/
def tq_K (S : Nat × (Nat → Int32)) (M : tq_M) (d : Nat) (as : List Value) (I : tq_PI) (L : tq_PL) (Q : Option Value → tq_PI → tq_PL → Prop) : Prop := tq_C S M d as (tq_st I L) (tq_Q Q)
section TQ8
variable {S : Nat × (Nat → Int32)} {M : tq_M} {d : Nat} {c0 : Nat × Nat} {pc nx tgt : Nat} {ls st : List Value} {I : tq_PI} {L : tq_PL} {σ : tq_S} {Q : Option Value → tq_S → Prop} {q0 : Option Value → tq_PI → tq_PL → Prop}
theorem tq_forget (l2 : List Value) (h : tq_le l2 ls) (k : tq_X S M d c0 pc l2 st σ Q) : tq_X S M d c0 pc ls st σ Q := by
  intro G p e R s m args below meth c H locs la F Wd hS hl hc
  refine k G p e R s m args below meth c H locs la F Wd hS ⟨hl.1, hl.2.1, fun q hq => ?_⟩ hc
  obtain ⟨i, v, rfl, hi, hv⟩ := tq_lv_of hq
  rcases tq_le_at h hi with h1 | h1
  · exact absurd h1 (hv 0)
  · exact hl.2.2 _ (tq_lv_mem hv h1)
theorem ty_getI {ix ci k a : Nat} (hd : tq_D M.2.1 pc (.getfield ix) 3 nx) (hf : tq_fok M.1.cls ix ci k) (ht : tq_tc (tq_tyf ci k) = 0) (hs : tq_sh0 a = ci) (kk : tq_X S M d c0 nx ls (.int (I a k) :: st) (tq_st I L) Q) : tq_X S M d c0 pc ls (.ref a :: st) (tq_st I L) Q := tq_getI hd hf ht hs kk
theorem ty_getL {ix ci k a : Nat} (hd : tq_D M.2.1 pc (.getfield ix) 3 nx) (hf : tq_fok M.1.cls ix ci k) (ht : tq_tc (tq_tyf ci k) = 1) (hs : tq_sh0 a = ci) (kk : tq_X S M d c0 nx ls (.long (L a k) :: st) (tq_st I L) Q) : tq_X S M d c0 pc ls (.ref a :: st) (tq_st I L) Q := tq_getL hd hf ht hs kk
theorem ty_getR {ix ci k a : Nat} (hd : tq_D M.2.1 pc (.getfield ix) 3 nx) (hf : tq_fok M.1.cls ix ci k) (ht : tq_tc (tq_tyf ci k) = 2) (hs : tq_sh0 a = ci) (hb : tq_r0 a k = some (tq_rg a k)) (kk : tq_X S M d c0 nx ls (.ref (tq_rg a k) :: st) (tq_st I L) Q) : tq_X S M d c0 pc ls (.ref a :: st) (tq_st I L) Q := tq_getR hd hf ht hs hb kk
theorem ty_iald {a n : Nat} {i v : Int32} (hd : tq_D M.2.1 pc (.iaload) 1 nx) (hs : tq_sh0 a = 100) (hn : tq_ln0 a = n) (hv : nI n = v) (hb : n < 100000) (hi : 0 ≤ i ∧ i < v) (kk : tq_X S M d c0 nx ls (.int (I a i.toNatClampNeg) :: st) (tq_st I L) Q) : tq_X S M d c0 pc ls (.int i :: .ref a :: st) (tq_st I L) Q := tq_iald hd hs (by show vp_in i (tq_ln0 a); rw [hn]; exact tq_bi hv hb hi) kk
theorem ty_bald {a n : Nat} {i v : Int32} (hd : tq_D M.2.1 pc (.baload) 1 nx) (hs : tq_sh0 a = 102) (hn : tq_ln0 a = n) (hv : nI n = v) (hb : n < 100000) (hi : 0 ≤ i ∧ i < v) (kk : tq_X S M d c0 nx ls (.int (I a i.toNatClampNeg) :: st) (tq_st I L) Q) : tq_X S M d c0 pc ls (.int i :: .ref a :: st) (tq_st I L) Q := tq_bald hd hs (by show vp_in i (tq_ln0 a); rw [hn]; exact tq_bi hv hb hi) kk
theorem ty_zald {a n : Nat} {i v : Int32} (hd : tq_D M.2.1 pc (.baload) 1 nx) (hs : tq_sh0 a = 103) (hn : tq_ln0 a = n) (hv : nI n = v) (hb : n < 100000) (hi : 0 ≤ i ∧ i < v) (kk : tq_X S M d c0 nx ls (.int (I a i.toNatClampNeg) :: st) (tq_st I L) Q) : tq_X S M d c0 pc ls (.int i :: .ref a :: st) (tq_st I L) Q := tq_zald hd hs (by show vp_in i (tq_ln0 a); rw [hn]; exact tq_bi hv hb hi) kk
theorem ty_lald {a n : Nat} {i v : Int32} (hd : tq_D M.2.1 pc (.laload) 1 nx) (hs : tq_sh0 a = 101) (hn : tq_ln0 a = n) (hv : nI n = v) (hb : n < 100000) (hi : 0 ≤ i ∧ i < v) (kk : tq_X S M d c0 nx ls (.long (L a i.toNatClampNeg) :: st) (tq_st I L) Q) : tq_X S M d c0 pc ls (.int i :: .ref a :: st) (tq_st I L) Q := tq_lald hd hs (by show vp_in i (tq_ln0 a); rw [hn]; exact tq_bi hv hb hi) kk
theorem ty_aald {a n t : Nat} {i v : Int32} (hd : tq_D M.2.1 pc (.aaload) 1 nx) (hs : tq_sh0 a = t) (ht : 110 ≤ t) (hn : tq_ln0 a = n) (hv : nI n = v) (hb : n < 100000) (hi : 0 ≤ i ∧ i < v) (hr : tq_r0 a i.toNatClampNeg = some (tq_rg a i.toNatClampNeg)) (kk : tq_X S M d c0 nx ls (.ref (tq_rg a i.toNatClampNeg) :: st) (tq_st I L) Q) : tq_X S M d c0 pc ls (.int i :: .ref a :: st) (tq_st I L) Q := tq_aald hd hs ht (by show vp_in i (tq_ln0 a); rw [hn]; exact tq_bi hv hb hi) hr kk
theorem ty_alen {a n t : Nat} {v : Int32} (hd : tq_D M.2.1 pc (.arraylength) 1 nx) (hs : tq_sh0 a = t) (ht : t = 100 ∨ t = 101 ∨ t = 102 ∨ t = 103 ∨ 110 ≤ t) (hn : tq_ln0 a = n) (hv : nI n = v) (kk : tq_X S M d c0 nx ls (.int v :: st) (tq_st I L) Q) : tq_X S M d c0 pc ls (.ref a :: st) (tq_st I L) Q := by
  subst hv
  refine tq_alen hd hs ht ?_
  show tq_X S M d c0 nx ls (.int (nI (tq_ln0 a)) :: st) (tq_st I L) Q
  rw [hn]
  exact kk
theorem ty_putI {ix ci k a : Nat} {x : Int32} (hd : tq_D M.2.1 pc (.putfield ix) 3 nx) (hf : tq_fok M.1.cls ix ci k) (ht : tq_tyf ci k = .int) (hs : tq_sh0 a = ci) (hfin : ((tq_cl ci).2.1 k).2.2.2 = false) (kk : tq_X S M d c0 nx ls st (tq_st (tq_up2 I a k x) L) Q) : tq_X S M d c0 pc ls (.int x :: .ref a :: st) (tq_st I L) Q := tq_putI hd hf ht hs hfin kk
theorem ty_putZ {ix ci k a : Nat} {x : Int32} (hd : tq_D M.2.1 pc (.putfield ix) 3 nx) (hf : tq_fok M.1.cls ix ci k) (ht : tq_tyf ci k = .boolean) (hs : tq_sh0 a = ci) (hfin : ((tq_cl ci).2.1 k).2.2.2 = false) (hx : x = 0 ∨ x = 1) (kk : tq_X S M d c0 nx ls st (tq_st (tq_up2 I a k x) L) Q) : tq_X S M d c0 pc ls (.int x :: .ref a :: st) (tq_st I L) Q := tq_putZ hd hf ht hs hfin hx kk
theorem ty_putL {ix ci k a : Nat} {x : Int64} (hd : tq_D M.2.1 pc (.putfield ix) 3 nx) (hf : tq_fok M.1.cls ix ci k) (ht : tq_tyf ci k = .long) (hs : tq_sh0 a = ci) (hfin : ((tq_cl ci).2.1 k).2.2.2 = false) (kk : tq_X S M d c0 nx ls st (tq_st I (tq_up2 L a k x)) Q) : tq_X S M d c0 pc ls (.long x :: .ref a :: st) (tq_st I L) Q := tq_putL hd hf ht hs hfin kk
theorem ty_iast {a n : Nat} {i v x : Int32} (hd : tq_D M.2.1 pc (.iastore) 1 nx) (hs : tq_sh0 a = 100) (hn : tq_ln0 a = n) (hv : nI n = v) (hb : n < 100000) (hi : 0 ≤ i ∧ i < v) (kk : tq_X S M d c0 nx ls st (tq_st (tq_up2 I a i.toNatClampNeg x) L) Q) : tq_X S M d c0 pc ls (.int x :: .int i :: .ref a :: st) (tq_st I L) Q := tq_iast hd hs (by show vp_in i (tq_ln0 a); rw [hn]; exact tq_bi hv hb hi) kk
theorem ty_bast {a n : Nat} {i v x : Int32} (hd : tq_D M.2.1 pc (.bastore) 1 nx) (hs : tq_sh0 a = 102) (hn : tq_ln0 a = n) (hv : nI n = v) (hb : n < 100000) (hi : 0 ≤ i ∧ i < v) (kk : tq_X S M d c0 nx ls st (tq_st (tq_up2 I a i.toNatClampNeg (x.toInt8.toInt32)) L) Q) : tq_X S M d c0 pc ls (.int x :: .int i :: .ref a :: st) (tq_st I L) Q := tq_bast hd hs (by show vp_in i (tq_ln0 a); rw [hn]; exact tq_bi hv hb hi) (by rw [vp_nar_byte]; exact kk)
theorem ty_zast {a n : Nat} {i v x : Int32} (hd : tq_D M.2.1 pc (.bastore) 1 nx) (hs : tq_sh0 a = 103) (hn : tq_ln0 a = n) (hv : nI n = v) (hb : n < 100000) (hi : 0 ≤ i ∧ i < v) (hx : x = 0 ∨ x = 1) (kk : tq_X S M d c0 nx ls st (tq_st (tq_up2 I a i.toNatClampNeg x) L) Q) : tq_X S M d c0 pc ls (.int x :: .int i :: .ref a :: st) (tq_st I L) Q := tq_zast hd hs (by show vp_in i (tq_ln0 a); rw [hn]; exact tq_bi hv hb hi) (by rw [show vp_nar .boolean x = x by rcases hx with rfl | rfl <;> rfl]; exact kk)
theorem ty_last {a n : Nat} {i v : Int32} {x : Int64} (hd : tq_D M.2.1 pc (.lastore) 1 nx) (hs : tq_sh0 a = 101) (hn : tq_ln0 a = n) (hv : nI n = v) (hb : n < 100000) (hi : 0 ≤ i ∧ i < v) (kk : tq_X S M d c0 nx ls st (tq_st I (tq_up2 L a i.toNatClampNeg x)) Q) : tq_X S M d c0 pc ls (.long x :: .int i :: .ref a :: st) (tq_st I L) Q := tq_last hd hs (by show vp_in i (tq_ln0 a); rw [hn]; exact tq_bi hv hb hi) kk
def tq_cpr (I : tq_PI) (a0 a : Nat) (sp dp n : Int32) : tq_PI := tq_row I a (va_cpy (I a0) (I a) sp.toNatClampNeg dp.toNatClampNeg n.toNatClampNeg)
theorem ty_copy {ix a0 a t n0 n1 : Nat} {n dp sp : Int32} (hd : tq_D M.2.1 pc (.invokestatic ix) 3 nx) (h8 : (st.map fun v => v.category).sum ≤ 8) (hw : Cond.methodLink M.1.cls ix arraycopyName ∈ lw_tbl ∧ Cond.native arraycopyName ∈ lw_tbl ∧ Cond.static arraycopyName ∈ lw_tbl ∧ Cond.initialized "java/lang/System" ∈ lw_tbl) (ht : t = 100 ∨ t = 102) (hs0 : tq_sh0 a0 = t) (hs : tq_sh0 a = t) (hn0 : tq_ln0 a0 = n0) (hn1 : tq_ln0 a = n1) (hg : (0 ≤ sp ∧ 0 ≤ dp ∧ 0 ≤ n) ∧ sp.toNatClampNeg + n.toNatClampNeg ≤ n0 ∧ dp.toNatClampNeg + n.toNatClampNeg ≤ n1)
    (kk : tq_X S M (d + 1) c0 nx ls st (tq_st (tq_cpr I a0 a sp dp n) L) Q) : tq_X S M (d + 1) c0 pc ls (.int n :: .int dp :: .ref a :: .int sp :: .ref a0 :: st) (tq_st I L) Q := tq_copy hd h8 hw ht hs0 hs (Int32.not_lt.mpr hg.1.1) (Int32.not_lt.mpr hg.1.2.1) (Int32.not_lt.mpr hg.1.2.2) (by show _ ≤ tq_ln0 a0; rw [hn0]; exact hg.2.1) (by show _ ≤ tq_ln0 a; rw [hn1]; exact hg.2.2) kk
theorem ty_iret {v : Int32} (hd : decode M.2.1 pc = .ok (.ireturn, 1)) (hr : M.2.2.2.1 = some .int) (hm : tq_k0 = (c0.1 + M.2.2.2.2.1, c0.2 + M.2.2.2.2.2)) (hq : q0 (some (.int v)) I L) : tq_X S M d c0 pc ls [.int v] (tq_st I L) (tq_Q q0) := tq_iret hd hr hm ⟨I, L, rfl, hq⟩
theorem ty_lret {v : Int64} (hd : decode M.2.1 pc = .ok (.lreturn, 1)) (hr : M.2.2.2.1 = some .long) (hm : tq_k0 = (c0.1 + M.2.2.2.2.1, c0.2 + M.2.2.2.2.2)) (hq : q0 (some (.long v)) I L) : tq_X S M d c0 pc ls [.long v] (tq_st I L) (tq_Q q0) := tq_lret hd hr hm ⟨I, L, rfl, hq⟩
theorem ty_zret {v : Int32} (hd : decode M.2.1 pc = .ok (.ireturn, 1)) {ty : FieldType} (hr : M.2.2.2.1 = some ty) (hn : narrow ty (.int v) = .int v) (hm : tq_k0 = (c0.1 + M.2.2.2.2.1, c0.2 + M.2.2.2.2.2)) (hq : q0 (some (.int v)) I L) : tq_X S M d c0 pc ls [.int v] (tq_st I L) (tq_Q q0) := tq_zret hd hr hn hm ⟨I, L, rfl, hq⟩
theorem ty_vret (hd : decode M.2.1 pc = .ok (.return_, 1)) (hr : M.2.2.2.1 = none) (hm : tq_k0 = (c0.1 + M.2.2.2.2.1, c0.2 + M.2.2.2.2.2)) (hq : q0 none I L) : tq_X S M d c0 pc ls [] (tq_st I L) (tq_Q q0) := tq_vret hd hr hm ⟨I, L, rfl, hq⟩
theorem ty_aret {v : Nat} (hd : decode M.2.1 pc = .ok (.areturn, 1)) {C : String} (hr : M.2.2.2.1 = some (.object C)) (hm : tq_k0 = (c0.1 + M.2.2.2.2.1, c0.2 + M.2.2.2.2.2)) (hq : q0 (some (.ref v)) I L) : tq_X S M d c0 pc ls [.ref v] (tq_st I L) (tq_Q q0) := tq_aret hd hr hm ⟨I, L, rfl, hq⟩
theorem ty_aretN (hd : decode M.2.1 pc = .ok (.areturn, 1)) {C : String} (hr : M.2.2.2.1 = some (.object C)) (hm : tq_k0 = (c0.1 + M.2.2.2.2.1, c0.2 + M.2.2.2.2.2)) (hq : q0 (some .null) I L) : tq_X S M d c0 pc ls [.null] (tq_st I L) (tq_Q q0) := tq_aretN hd hr hm ⟨I, L, rfl, hq⟩
theorem tq_K_of {as : List Value} (hy : plainName M.1.cls = true) (hn : (tq_ent as).length ≤ M.2.2.1) (he : tq_ent as ++ List.replicate (M.2.2.1 - (tq_ent as).length) tq_u = ls) (hX : tq_X S M d tq_k0 0 ls [] (tq_st I L) (tq_Q q0)) : tq_K S M d as I L q0 := tq_C_of hy hn he hX
theorem tq_bud {M' : tq_M} (hb : tq_k0 = (c0.1 + M.2.2.2.2.1, c0.2 + M.2.2.2.2.2) ∧ M'.2.2.2.2 = (0, 0)) : (tq_st I L).1.1 + M'.2.2.2.2.1 ≤ c0.1 + M.2.2.2.2.1 ∧ (tq_st I L).1.2 + M'.2.2.2.2.2 ≤ c0.2 + M.2.2.2.2.2 := by
  have h1 : tq_k0.1 = c0.1 + M.2.2.2.2.1 := by rw [hb.1]
  have h2 : tq_k0.2 = c0.2 + M.2.2.2.2.2 := by rw [hb.1]
  rw [hb.2]
  exact ⟨Nat.le_of_eq h1, Nat.le_of_eq h2⟩
abbrev tq_one2 (r0 : Option Value) (I2 : tq_PI) (L2 : tq_PL) : Option Value → tq_PI → tq_PL → Prop := fun r i l => r = r0 ∧ i = I2 ∧ l = L2
theorem ty_callVI {M' : tq_M} {ix ci n a : Nat} (v : Int32) (as : List Value) (st : List Value) {st0 : List Value} {I2 : tq_PI} {L2 : tq_PL} (hd : tq_D M.2.1 pc (.invokevirtual ix) 3 nx) (hk : tq_lok M.1.cls ix M'.1) (hm : tq_mok M' n) (hw : ci < 13 ∧ (tq_cl ci).1 = M'.1.cls ∧ Cond.instanceMethod M'.1 ∈ lw_tbl ∧ Cond.selects M'.1.cls M'.1 M'.1 ∈ lw_tbl) (hs : tq_sh0 a = ci) (hst : as.reverse ++ .ref a :: st = st0) (hn : as.length = n) (h8 : (st.map fun v => v.category).sum ≤ 8) (hb : tq_k0 = (c0.1 + M.2.2.2.2.1, c0.2 + M.2.2.2.2.2) ∧ M'.2.2.2.2 = (0, 0))
    (hC : tq_K S M' d (.ref a :: as) I L (tq_one2 (some (.int v)) I2 L2)) (kk : tq_X S M (d + 1) c0 nx ls (.int v :: st) (tq_st I2 L2) Q) : tq_X S M (d + 1) c0 pc ls st0 (tq_st I L) Q :=
  tq_callV hd hk hm hw hs hst hn h8 (tq_bud hb) hC (fun r σ h => by obtain ⟨i, l, rfl, rfl, rfl, rfl⟩ := h; exact kk)
theorem ty_callSI {M' : tq_M} {ix n : Nat} (v : Int32) (as : List Value) (st : List Value) {st0 : List Value} {I2 : tq_PI} {L2 : tq_PL} (hd : tq_D M.2.1 pc (.invokestatic ix) 3 nx) (hk : tq_lok M.1.cls ix M'.1) (hm : tq_mok M' n) (hw : Cond.static M'.1 ∈ lw_tbl) (hst : as.reverse ++ st = st0) (hn : as.length = n) (h8 : (st.map fun v => v.category).sum ≤ 8) (hb : tq_k0 = (c0.1 + M.2.2.2.2.1, c0.2 + M.2.2.2.2.2) ∧ M'.2.2.2.2 = (0, 0))
    (hC : tq_K S M' d as I L (tq_one2 (some (.int v)) I2 L2)) (kk : tq_X S M (d + 1) c0 nx ls (.int v :: st) (tq_st I2 L2) Q) : tq_X S M (d + 1) c0 pc ls st0 (tq_st I L) Q :=
  tq_callS hd hk hm hw hst hn h8 (tq_bud hb) hC (fun r σ h => by obtain ⟨i, l, rfl, rfl, rfl, rfl⟩ := h; exact kk)
theorem ty_callVJ {M' : tq_M} {ix ci n a : Nat} (v : Int64) (as : List Value) (st : List Value) {st0 : List Value} {I2 : tq_PI} {L2 : tq_PL} (hd : tq_D M.2.1 pc (.invokevirtual ix) 3 nx) (hk : tq_lok M.1.cls ix M'.1) (hm : tq_mok M' n) (hw : ci < 13 ∧ (tq_cl ci).1 = M'.1.cls ∧ Cond.instanceMethod M'.1 ∈ lw_tbl ∧ Cond.selects M'.1.cls M'.1 M'.1 ∈ lw_tbl) (hs : tq_sh0 a = ci) (hst : as.reverse ++ .ref a :: st = st0) (hn : as.length = n) (h8 : (st.map fun v => v.category).sum ≤ 8) (hb : tq_k0 = (c0.1 + M.2.2.2.2.1, c0.2 + M.2.2.2.2.2) ∧ M'.2.2.2.2 = (0, 0))
    (hC : tq_K S M' d (.ref a :: as) I L (tq_one2 (some (.long v)) I2 L2)) (kk : tq_X S M (d + 1) c0 nx ls (.long v :: st) (tq_st I2 L2) Q) : tq_X S M (d + 1) c0 pc ls st0 (tq_st I L) Q :=
  tq_callV hd hk hm hw hs hst hn h8 (tq_bud hb) hC (fun r σ h => by obtain ⟨i, l, rfl, rfl, rfl, rfl⟩ := h; exact kk)
theorem ty_callSJ {M' : tq_M} {ix n : Nat} (v : Int64) (as : List Value) (st : List Value) {st0 : List Value} {I2 : tq_PI} {L2 : tq_PL} (hd : tq_D M.2.1 pc (.invokestatic ix) 3 nx) (hk : tq_lok M.1.cls ix M'.1) (hm : tq_mok M' n) (hw : Cond.static M'.1 ∈ lw_tbl) (hst : as.reverse ++ st = st0) (hn : as.length = n) (h8 : (st.map fun v => v.category).sum ≤ 8) (hb : tq_k0 = (c0.1 + M.2.2.2.2.1, c0.2 + M.2.2.2.2.2) ∧ M'.2.2.2.2 = (0, 0))
    (hC : tq_K S M' d as I L (tq_one2 (some (.long v)) I2 L2)) (kk : tq_X S M (d + 1) c0 nx ls (.long v :: st) (tq_st I2 L2) Q) : tq_X S M (d + 1) c0 pc ls st0 (tq_st I L) Q :=
  tq_callS hd hk hm hw hst hn h8 (tq_bud hb) hC (fun r σ h => by obtain ⟨i, l, rfl, rfl, rfl, rfl⟩ := h; exact kk)
theorem ty_callVV {M' : tq_M} {ix ci n a : Nat}  (as : List Value) (st : List Value) {st0 : List Value} {I2 : tq_PI} {L2 : tq_PL} (hd : tq_D M.2.1 pc (.invokevirtual ix) 3 nx) (hk : tq_lok M.1.cls ix M'.1) (hm : tq_mok M' n) (hw : ci < 13 ∧ (tq_cl ci).1 = M'.1.cls ∧ Cond.instanceMethod M'.1 ∈ lw_tbl ∧ Cond.selects M'.1.cls M'.1 M'.1 ∈ lw_tbl) (hs : tq_sh0 a = ci) (hst : as.reverse ++ .ref a :: st = st0) (hn : as.length = n) (h8 : (st.map fun v => v.category).sum ≤ 8) (hb : tq_k0 = (c0.1 + M.2.2.2.2.1, c0.2 + M.2.2.2.2.2) ∧ M'.2.2.2.2 = (0, 0))
    (hC : tq_K S M' d (.ref a :: as) I L (tq_one2 (none) I2 L2)) (kk : tq_X S M (d + 1) c0 nx ls (st) (tq_st I2 L2) Q) : tq_X S M (d + 1) c0 pc ls st0 (tq_st I L) Q :=
  tq_callV hd hk hm hw hs hst hn h8 (tq_bud hb) hC (fun r σ h => by obtain ⟨i, l, rfl, rfl, rfl, rfl⟩ := h; exact kk)
theorem ty_callSV {M' : tq_M} {ix n : Nat}  (as : List Value) (st : List Value) {st0 : List Value} {I2 : tq_PI} {L2 : tq_PL} (hd : tq_D M.2.1 pc (.invokestatic ix) 3 nx) (hk : tq_lok M.1.cls ix M'.1) (hm : tq_mok M' n) (hw : Cond.static M'.1 ∈ lw_tbl) (hst : as.reverse ++ st = st0) (hn : as.length = n) (h8 : (st.map fun v => v.category).sum ≤ 8) (hb : tq_k0 = (c0.1 + M.2.2.2.2.1, c0.2 + M.2.2.2.2.2) ∧ M'.2.2.2.2 = (0, 0))
    (hC : tq_K S M' d as I L (tq_one2 (none) I2 L2)) (kk : tq_X S M (d + 1) c0 nx ls (st) (tq_st I2 L2) Q) : tq_X S M (d + 1) c0 pc ls st0 (tq_st I L) Q :=
  tq_callS hd hk hm hw hst hn h8 (tq_bud hb) hC (fun r σ h => by obtain ⟨i, l, rfl, rfl, rfl, rfl⟩ := h; exact kk)
theorem ty_callVA {M' : tq_M} {ix ci n a : Nat} (v : Option Nat) (as : List Value) (st : List Value) {st0 : List Value} {I2 : tq_PI} {L2 : tq_PL} (hd : tq_D M.2.1 pc (.invokevirtual ix) 3 nx) (hk : tq_lok M.1.cls ix M'.1) (hm : tq_mok M' n) (hw : ci < 13 ∧ (tq_cl ci).1 = M'.1.cls ∧ Cond.instanceMethod M'.1 ∈ lw_tbl ∧ Cond.selects M'.1.cls M'.1 M'.1 ∈ lw_tbl) (hs : tq_sh0 a = ci) (hst : as.reverse ++ .ref a :: st = st0) (hn : as.length = n) (h8 : (st.map fun v => v.category).sum ≤ 8) (hb : tq_k0 = (c0.1 + M.2.2.2.2.1, c0.2 + M.2.2.2.2.2) ∧ M'.2.2.2.2 = (0, 0))
    (hC : tq_K S M' d (.ref a :: as) I L (tq_one2 (some (tq_rv v)) I2 L2)) (kk : tq_X S M (d + 1) c0 nx ls (tq_rv v :: st) (tq_st I2 L2) Q) : tq_X S M (d + 1) c0 pc ls st0 (tq_st I L) Q :=
  tq_callV hd hk hm hw hs hst hn h8 (tq_bud hb) hC (fun r σ h => by obtain ⟨i, l, rfl, rfl, rfl, rfl⟩ := h; exact kk)
theorem ty_callSA {M' : tq_M} {ix n : Nat} (v : Option Nat) (as : List Value) (st : List Value) {st0 : List Value} {I2 : tq_PI} {L2 : tq_PL} (hd : tq_D M.2.1 pc (.invokestatic ix) 3 nx) (hk : tq_lok M.1.cls ix M'.1) (hm : tq_mok M' n) (hw : Cond.static M'.1 ∈ lw_tbl) (hst : as.reverse ++ st = st0) (hn : as.length = n) (h8 : (st.map fun v => v.category).sum ≤ 8) (hb : tq_k0 = (c0.1 + M.2.2.2.2.1, c0.2 + M.2.2.2.2.2) ∧ M'.2.2.2.2 = (0, 0))
    (hC : tq_K S M' d as I L (tq_one2 (some (tq_rv v)) I2 L2)) (kk : tq_X S M (d + 1) c0 nx ls (tq_rv v :: st) (tq_st I2 L2) Q) : tq_X S M (d + 1) c0 pc ls st0 (tq_st I L) Q :=
  tq_callS hd hk hm hw hst hn h8 (tq_bud hb) hC (fun r σ h => by obtain ⟨i, l, rfl, rfl, rfl, rfl⟩ := h; exact kk)
theorem ty_callTI {M' : tq_M} {ix n j : Nat} (v : Int32) (as : List Value) (st : List Value) {st0 : List Value} {I2 : tq_PI} {L2 : tq_PL} (hd : tq_D M.2.1 pc (.invokevirtual ix) 3 nx) (hk : Cond.methodLink M.1.cls ix M'.1 ∈ lw_tbl) (hm : tq_mok M' n) (hw : "java/lang/String" = M'.1.cls ∧ Cond.instanceMethod M'.1 ∈ lw_tbl ∧ Cond.selects M'.1.cls M'.1 M'.1 ∈ lw_tbl) (hj : j < 11) (hst : as.reverse ++ .retAddr (j + 1) :: st = st0) (hn : as.length = n) (h8 : (st.map fun v => v.category).sum ≤ 8) (hb : tq_k0 = (c0.1 + M.2.2.2.2.1, c0.2 + M.2.2.2.2.2) ∧ M'.2.2.2.2 = (0, 0))
    (hC : tq_K S M' d (.retAddr (j + 1) :: as) I L (tq_one2 (some (.int v)) I2 L2)) (kk : tq_X S M (d + 1) c0 nx ls (.int v :: st) (tq_st I2 L2) Q) : tq_X S M (d + 1) c0 pc ls st0 (tq_st I L) Q :=
  tq_callStr hd hk hm hw hj hst hn h8 (tq_bud hb) hC (fun r σ h => by obtain ⟨i, l, rfl, rfl, rfl, rfl⟩ := h; exact kk)
end TQ8
