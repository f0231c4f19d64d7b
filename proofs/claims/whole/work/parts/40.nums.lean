/-! PURE ROWS: no machine from here on. Truth values as ints; leaves of both sides as equations -/
def bI (p : Prop) [Decidable p] : Int32 := if p then 1 else 0
theorem bI_0 {p : Prop} [Decidable p] : (bI p = 0) = ¬ p := by by_cases h : p <;> simp [bI, h]
theorem bI_t {p : Prop} [Decidable p] (h : p) : bI p = 1 := by simp [bI, h]
theorem bI_f {p : Prop} [Decidable p] (h : ¬ p) : bI p = 0 := by simp [bI, h]
theorem bI_nar {p : Prop} [Decidable p] : narrow .boolean (.int (bI p)) = .int (bI p) := by by_cases h : p <;> simp [bI, h] <;> rfl
theorem bI_fit {p : Prop} [Decidable p] : fits .boolean (.int (bI p)) = true := by by_cases h : p <;> simp [bI, h] <;> rfl
theorem bI_congr {p q : Prop} [Decidable p] [Decidable q] (h : p ↔ q) : bI p = bI q := by by_cases hp : p <;> simp [bI, hp, h.symm] <;> simp [h] at hp <;> simp [hp]
theorem i_lt {a b : Int32} : (a < b) = ¬ b ≤ a := propext Int32.not_le.symm
theorem cmp_lt {a b : Int64} : (lg_cmp a b < 0) = ¬ b ≤ a := by
  apply propext
  unfold lg_cmp
  by_cases h1 : b < a
  · have h2 : b ≤ a := Int64.le_of_lt h1
    simp [h1, h2]
  · by_cases h2 : a = b
    · subst h2
      simp
    · have h3 : ¬ b ≤ a := fun h => h1 (Int64.lt_of_le_of_ne h (fun e => h2 e.symm))
      simp [h1, h2, h3]
theorem cmp_gt {a b : Int64} : (0 < lg_cmp a b) = ¬ a ≤ b := by
  apply propext
  unfold lg_cmp
  by_cases h1 : b < a
  · simp [h1]
  · by_cases h2 : a = b
    · subst h2
      simp
    · have h3 : a ≤ b := Int64.not_lt.mp h1
      simp [h1, h2, h3]
theorem cmp_eq {a b : Int64} : (lg_cmp a b = 0) = (a = b) := by
  apply propext
  unfold lg_cmp
  by_cases h1 : b < a
  · have h2 : ¬ a = b := fun e => by subst e; exact Int64.lt_irrefl h1
    simp [h1, h2]
  · by_cases h2 : a = b
    · simp [h2]
    · simp [h1, h2]
theorem br_ite {p : Prop} {A B : Prop} (d : Decidable p) : ((p → A) ∧ (¬ p → B)) = (if p then A else B) := by
  apply propext
  by_cases h : p <;> simp [h]
section LEAF
variable {X : XT} {Y : YT} {Q : Int32 → XT → YT → Prop} {a b c p m k : Int32}
theorem eq_within : PX9_within a b c X Y Q = Q (bI (b ≤ a ∧ a ≤ c)) X Y := by
  apply propext
  unfold PX9_within BX9_within_s
  simp only [i_lt]
  by_cases h1 : b ≤ a <;> by_cases h2 : a ≤ c <;> simp [bI, h1, h2]
theorem eq_has : PX9_has m k X Y Q = Q (bI (¬ (m >>> (k &&& 31)) &&& 1 = 0)) X Y := by
  apply propext
  unfold PX9_has BX9_has_s
  by_cases h1 : (m >>> (k &&& 31)) &&& 1 = 0 <;> simp [bI, h1]
theorem eq_allBelow : PX9_allBelow k X Y Q = Q ((1 <<< (k &&& 31)) - 1) X Y := rfl
theorem eq_isKnown : PX1_isKnown p X Y Q = Q (bI (0 ≤ p ∧ p ≤ X 3 9 - 1)) X Y := by
  unfold PX1_isKnown BX1_isKnown_s
  rw [eq_within]
  simp only [bI_nar, true_and]
theorem eq_isBar : PX3_isBar p X Y Q = Q (bI (0 ≤ p ∧ p ≤ X 13 13 - 1)) X Y := by
  unfold PX3_isBar BX3_isBar_s
  rw [eq_within]
  simp only [bI_nar, true_and]
theorem eq_in {a b c : Int64} : PX10_in a b c X Y Q = Q (bI (b ≤ a ∧ a ≤ c)) X Y := by
  apply propext
  unfold PX10_in BX10_in_s
  simp only [cmp_lt, cmp_gt]
  by_cases h1 : b ≤ a <;> by_cases h2 : a ≤ c <;> simp [bI, h1, h2]
theorem eq_in3 : PX10_in a.toInt64 b.toInt64 c.toInt64 X Y Q = Q (bI (b ≤ a ∧ a ≤ c)) X Y := by
  rw [eq_in]
  exact congrArg (fun z => Q z X Y) (bI_congr (by rw [Int32.toInt64_le, Int32.toInt64_le]))
theorem eq_one : PX10_one a X Y Q = Q (bI (¬ a = 0)) X Y := by
  apply propext
  unfold PX10_one BX10_one_s
  by_cases h1 : a = 0 <;> simp [bI, h1]
end LEAF
theorem l64_0 : (0 : Int64) = (0 : Int32).toInt64 := by decide
theorem l64_1 : (1 : Int64) = (1 : Int32).toInt64 := by decide
theorem l64_3 : (3 : Int64) = (3 : Int32).toInt64 := by decide
theorem l64_8 : (8 : Int64) = (8 : Int32).toInt64 := by decide
theorem l64_9 : (9 : Int64) = (9 : Int32).toInt64 := by decide
theorem l64_12 : (12 : Int64) = (12 : Int32).toInt64 := by decide
theorem l64_15 : (15 : Int64) = (15 : Int32).toInt64 := by decide
theorem l64_20 : (20 : Int64) = (20 : Int32).toInt64 := by decide
theorem l64_25 : (25 : Int64) = (25 : Int32).toInt64 := by decide
theorem l64_48 : (48 : Int64) = (48 : Int32).toInt64 := by decide
theorem l64_57 : (57 : Int64) = (57 : Int32).toInt64 := by decide
theorem l64_97 : (97 : Int64) = (97 : Int32).toInt64 := by decide
theorem l64_99 : (99 : Int64) = (99 : Int32).toInt64 := by decide
theorem l64_122 : (122 : Int64) = (122 : Int32).toInt64 := by decide
section LEAF2
variable {X : XT} {Y : YT} {Q : Int32 → XT → YT → Prop} {p : Int32}
theorem eq_noName : PX10_noName p X Y Q = Q (bI (¬ (0 ≤ p ∧ p ≤ X 48 1 - 1))) X Y := by
  unfold PX10_noName BX10_noName_s
  rw [l64_0, eq_in3]
  apply propext
  by_cases h : 0 ≤ p ∧ p ≤ X 48 1 - 1 <;> simp [bI, h]
theorem eq_noBar : PX10_noBar p X Y Q = Q (bI (¬ (0 ≤ p ∧ p ≤ X 48 22 - 1))) X Y := by
  unfold PX10_noBar BX10_noBar_s
  rw [l64_0, eq_in3]
  apply propext
  by_cases h : 0 ≤ p ∧ p ≤ X 48 22 - 1 <;> simp [bI, h]
theorem eq_isReader : PX10_isReader p X Y Q = Q (bI (0 ≤ p ∧ p ≤ 3)) X Y := by
  unfold PX10_isReader BX10_isReader_s
  rw [l64_0, l64_3, eq_in3]
  simp only [bI_nar, true_and]
end LEAF2
