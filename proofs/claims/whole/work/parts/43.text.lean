/-! THE TEXT: letters, words, names in it -/
theorem x97 {x y : Int32} : x = 97 + y ↔ y = x - 97 := by
  constructor
  · intro h
    subst h
    grind
  · intro h
    subst h
    grind
abbrev isL (x : Int32) : Prop := 97 ≤ x ∧ x ≤ 122
def isLb (x : Int32) : Bool := decide (isL x)
theorem isLb_iff {x : Int32} : isLb x = true ↔ isL x := by unfold isLb; exact decide_eq_true_iff
/-- the first place from i on, of d looked at, that has no letter -/
def eow (b : Nat → Int32) : Nat → Nat → Nat
  | 0, i => i
  | d + 1, i => if isLb (b i) = true then eow b d (i + 1) else i
theorem eow_le (b : Nat → Int32) : ∀ d i, i ≤ eow b d i ∧ eow b d i ≤ i + d
  | 0, i => ⟨Nat.le_refl _, Nat.le_refl _⟩
  | d + 1, i => by
    unfold eow
    split
    · have := eow_le b d (i + 1)
      omega
    · omega
theorem eow_all (b : Nat → Int32) : ∀ d i, eow b d i = i + d ↔ ∀ k, k < d → isL (b (i + k))
  | 0, i => ⟨fun _ k hk => absurd hk (by omega), fun _ => rfl⟩
  | d + 1, i => by
    unfold eow
    by_cases h : isLb (b i) = true
    · rw [if_pos h, show i + (d + 1) = (i + 1) + d by omega, eow_all b d (i + 1)]
      refine ⟨fun g k hk => ?_, fun g k hk => ?_⟩
      · cases k with
        | zero => exact isLb_iff.mp h
        | succ k =>
          have := g k (by omega)
          rw [show i + (k + 1) = i + 1 + k by omega]
          exact this
      · have := g (k + 1) (by omega)
        rw [show i + 1 + k = i + (k + 1) by omega]
        exact this
    · rw [if_neg h]
      refine ⟨fun g => absurd g (by omega), fun g => ?_⟩
      exact absurd (isLb_iff.mpr (g 0 (by omega))) h
theorem eow_L (b : Nat → Int32) : ∀ d i k, i ≤ k → k < eow b d i → isL (b k)
  | 0, i, k, h1, h2 => absurd h2 (by show ¬ k < i; omega)
  | d + 1, i, k, h1, h2 => by
    unfold eow at h2
    by_cases h : isLb (b i) = true
    · rw [if_pos h] at h2
      by_cases hk : k = i
      · subst hk
        exact isLb_iff.mp h
      · exact eow_L b d (i + 1) k (by omega) h2
    · rw [if_neg h] at h2
      omega
/-- the first of d numbers from i on with p; -1 -/
def fst (p : Nat → Bool) : Nat → Nat → Int32
  | 0, _ => -1
  | d + 1, i => if p i = true then nI i else fst p d (i + 1)
theorem fst_or (p : Nat → Bool) : ∀ d i, fst p d i = -1 ∨ ∃ j, i ≤ j ∧ j < i + d ∧ p j = true ∧ fst p d i = nI j
  | 0, i => Or.inl rfl
  | d + 1, i => by
    unfold fst
    by_cases h : p i = true
    · rw [if_pos h]
      exact Or.inr ⟨i, by omega, by omega, h, rfl⟩
    · rw [if_neg h]
      rcases fst_or p d (i + 1) with h1 | ⟨j, h1, h2, h3, h4⟩
      · exact Or.inl h1
      · exact Or.inr ⟨j, by omega, by omega, h3, h4⟩
theorem fst_congr {p q : Nat → Bool} : ∀ d i, (∀ j, i ≤ j → j < i + d → p j = q j) → fst p d i = fst q d i
  | 0, i, _ => rfl
  | d + 1, i, h => by
    unfold fst
    rw [h i (by omega) (by omega), fst_congr d (i + 1) (fun j h1 h2 => h j (by omega) (by omega))]
/-- the name n is what stands in b from i on, m letters -/
def isN (l s b : Nat → Int32) (i m n : Nat) : Bool := decide (s n = nI m ∧ ∀ k, k < m → l (12 * n + k) = b (i + k) - 97)
theorem isN_iff {l s b : Nat → Int32} {i m n : Nat} : isN l s b i m n = true ↔ s n = nI m ∧ ∀ k, k < m → l (12 * n + k) = b (i + k) - 97 := by unfold isN; exact decide_eq_true_iff
theorem mul12 (a k : Nat) : nI a * 12 + nI k = nI (12 * a + k) := by rw [show (12 : Int32) = nI 12 from rfl, pk_mul, nI_add, Nat.mul_comm]
theorem mul12' (a k : Nat) : 12 * nI a + nI k = nI (12 * a + k) := by rw [show (12 : Int32) = nI 12 from rfl, pk_mul, nI_add]
theorem mul26 (a k : Nat) : nI a * 26 + nI k = nI (26 * a + k) := by rw [show (26 : Int32) = nI 26 from rfl, pk_mul, nI_add, Nat.mul_comm]
theorem mul26' (a k : Nat) : 26 * nI a + nI k = nI (26 * a + k) := by rw [show (26 : Int32) = nI 26 from rfl, pk_mul, nI_add]
theorem mul10 (a k : Nat) : nI a * 10 + nI k = nI (10 * a + k) := by rw [show (10 : Int32) = nI 10 from rfl, pk_mul, nI_add, Nat.mul_comm]
theorem mul10' (a k : Nat) : 10 * nI a + nI k = nI (10 * a + k) := by rw [show (10 : Int32) = nI 10 from rfl, pk_mul, nI_add]
theorem le_nI {a b : Nat} (ha : a < 2147483648) (hb : b < 2147483648) : (nI a ≤ nI b) = (a ≤ b) := propext (nI_leI (by omega) (by omega))
theorem eq_nI {a b : Nat} (ha : a < 2147483648) (hb : b < 2147483648) : (nI a = nI b) = (a = b) := propext (nI_eq (by omega) (by omega))
theorem lt0_nI {a : Nat} (ha : a < 2147483648) : (nI a < 0) = False := propext ⟨fun h => absurd h (nI_pos (by omega)), False.elim⟩
section TEXT
variable {X : XT} {Y : YT} {Q : Int32 → XT → YT → Prop} {t : Nat}
theorem eq_at {i : Nat} (hi : i < 1000) (ht : t ≤ 120) (h : X 1 1 = nI t) : PX8_at (nI i) X Y Q = Q (if i < t then X 2 i else -1) X Y := by
  apply propext
  unfold PX8_at BX8_at_s
  rw [h]
  simp only [lt0_nI (show i < 2147483648 by omega), le_nI (show t < 2147483648 by omega) (show i < 2147483648 by omega), cl_nI (show i < 2147483648 by omega)]
  by_cases h1 : i < t
  · have h2 : ¬ t ≤ i := by omega
    simp [h1, h2, vp_in_nI (show i < 120 by omega) (by omega)]
  · have h2 : t ≤ i := by omega
    simp [h1, h2]
theorem eq_isLetter {i : Nat} (hi : i < 1000) (ht : t ≤ 120) (h : X 1 1 = nI t) : PX8_isLetter (nI i) X Y Q = Q (bI (i < t ∧ isLb (X 2 i) = true)) X Y := by
  unfold PX8_isLetter BX8_isLetter_s
  rw [eq_at hi ht h, eq_within]
  simp only [bI_nar, true_and]
  refine congrArg (fun z => Q z X Y) (bI_congr ?_)
  rw [isLb_iff]
  by_cases h1 : i < t
  · simp [h1, isL]
  · simp only [h1, if_false, false_and, iff_false]
    decide
theorem s_endOfWord (ht : t ≤ 120) (h : X 1 1 = nI t) : ∀ {i : Nat}, i ≤ 900 → Q (nI (eow (X 2) (t - i) i)) X Y → PX8_endOfWord (nI i) X Y Q := by
  intro i hi hq I2 h2
  unfold BX8_endOfWord_s
  have key : ∀ d i, i + d ≤ 1000 → t - i = d → Q (nI (eow (X 2) d i)) X Y → I2 (nI i) X Y := by
    intro d
    induction d with
    | zero =>
      intro i h1 h3 hq
      apply h2
      unfold BX8_endOfWord_2
      rw [h, le_nI (by omega) (by omega)]
      exact ⟨fun _ => hq, fun g => absurd (by omega) g⟩
    | succ d ih =>
      intro i h1 h3 hq
      apply h2
      unfold BX8_endOfWord_2
      rw [h, le_nI (by omega) (by omega)]
      refine ⟨fun g => absurd g (by omega), fun g => ?_⟩
      rw [eq_isLetter (by omega) ht h]
      simp only [bI_0]
      unfold eow at hq
      by_cases hl : isLb (X 2 i) = true
      · rw [if_pos hl] at hq
        refine ⟨fun g => absurd ⟨by omega, hl⟩ g, fun _ w hw => ?_⟩
        rw [hw, nI_1]
        exact ih (i + 1) (by omega) (by omega) hq
      · rw [if_neg hl] at hq
        exact ⟨fun _ => hq, fun g => absurd (fun h => hl h.2) g⟩
  exact key _ i (by omega) rfl hq
theorem s_isRow (ht : t ≤ 120) (h : X 1 1 = nI t) (hq : Q (bI (0 < t ∧ eow (X 2) t 0 = t)) X Y) : PX8_isRowOfLetters X Y Q := by
  unfold PX8_isRowOfLetters BX8_isRowOfLetters_s
  rw [h, show (0 : Int32) = nI 0 from rfl, le_nI (by omega) (by omega)]
  refine ⟨fun g => ?_, fun g => ?_⟩
  · rw [bI_f (by omega)] at hq
    exact hq
  · refine s_endOfWord (i := 0) ht h (by omega) ?_
    rw [h]
    have := eow_le (X 2) (t - 0) 0
    rw [eq_nI (by omega) (by omega)]
    refine ⟨fun g2 => ?_, fun g2 => ?_⟩
    · rw [bI_f (by intro g3; exact g2 g3.2)] at hq
      exact hq
    · rw [bI_t ⟨by omega, g2⟩] at hq
      exact hq
/-- isWritten: the letters of the name n stand in the text from i on -/
theorem s_isWritten {i n m : Nat} (ht : t ≤ 120) (h : X 1 1 = nI t) (hn : n < 10) (hm : m ≤ 12) (hs : X 6 n = nI m) (hi : i + m ≤ t) (hq : Q (bI (∀ k, k < m → X 5 (12 * n + k) = X 2 (i + k) - 97)) X Y) : PX1_isWritten (nI n) (nI i) X Y Q := by
  intro I3 h3
  unfold BX1_isWritten_s
  have key : ∀ d k, k + d = m → (∀ j, j < k → X 5 (12 * n + j) = X 2 (i + j) - 97) → I3 (nI n) (nI i) (nI k) X Y := by
    intro d
    induction d with
    | zero =>
      intro k hk hall
      apply h3
      unfold BX1_isWritten_3
      rw [cl_nI (show n < 2147483648 by omega), hs, le_nI (by omega) (by omega)]
      refine ⟨vp_in_nI hn (by omega), fun _ => ?_, fun g => absurd (by omega) g⟩
      rw [bI_t (fun k' hk' => hall k' (by omega))] at hq
      exact hq
    | succ d ih =>
      intro k hk hall
      apply h3
      unfold BX1_isWritten_3
      rw [cl_nI (show n < 2147483648 by omega), hs, le_nI (by omega) (by omega)]
      refine ⟨vp_in_nI hn (by omega), fun g => absurd g (by omega), fun _ => ?_⟩
      rw [nI_add, eq_at (by omega) ht h, if_pos (by omega), mul12, cl_nI (by omega)]
      refine ⟨vp_in_nI (by omega) (by omega), fun g w hw => ?_, fun g => ?_⟩
      · rw [hw, nI_1]
        refine ih (k + 1) (by omega) (fun j hj => ?_)
        by_cases hjk : j = k
        · subst hjk
          exact x97.mp g
        · exact hall j (by omega)
      · rw [bI_f (fun g2 => g (x97.mpr (g2 k (by omega))))] at hq
        exact hq
  exact key m 0 (by omega) (fun j hj => absurd hj (by omega))
/-- find -/
theorem s_find {i e N : Nat} (ht : t ≤ 120) (h : X 1 1 = nI t) (hN : N ≤ 10) (hn : X 3 9 = nI N) (hs : ∀ j, ∃ v, v ≤ 12 ∧ X 6 j = nI v) (hi : i ≤ e) (he : e ≤ t) (hq : Q (fst (isN (X 5) (X 6) (X 2) i (e - i)) N 0) X Y) : PX1_find (nI i) (nI e) X Y Q := by
  intro I3 h3
  unfold BX1_find_s
  have key : ∀ d n, n + d = N → Q (fst (isN (X 5) (X 6) (X 2) i (e - i)) d n) X Y → I3 (nI i) (nI e) (nI n) X Y := by
    intro d
    induction d with
    | zero =>
      intro n hnd hq
      apply h3
      unfold BX1_find_3
      rw [hn, le_nI (by omega) (by omega)]
      exact ⟨fun _ => hq, fun g => absurd (by omega) g⟩
    | succ d ih =>
      intro n hnd hq
      apply h3
      unfold BX1_find_3
      rw [hn, le_nI (by omega) (by omega)]
      refine ⟨fun g => absurd g (by omega), fun _ => ⟨vp_in_nI (by omega) (by omega), ?_⟩⟩
      obtain ⟨v, hv, hsv⟩ := hs n
      rw [cl_nI (show n < 2147483648 by omega), hsv, pk_sub hi, eq_nI (by omega) (by omega)]
      unfold fst at hq
      refine ⟨fun g w hw => ?_, fun g => ?_⟩
      · rw [if_neg (by rw [isN_iff, hsv, eq_nI (by omega) (by omega)]; exact fun g2 => g g2.1)] at hq
        rw [hw, nI_1]
        exact ih (n + 1) (by omega) hq
      · refine s_isWritten (m := v) ht h (by omega) hv hsv (by omega) ?_
        simp only [bI_0]
        by_cases g2 : ∀ k, k < v → X 5 (12 * n + k) = X 2 (i + k) - 97
        · rw [if_pos (by rw [isN_iff]; exact ⟨by rw [hsv, g], by rw [← g]; exact g2⟩)] at hq
          exact ⟨fun g3 => absurd g2 g3, fun _ => hq⟩
        · rw [if_neg (by rw [isN_iff, ← g]; exact fun g3 => g2 g3.2)] at hq
          refine ⟨fun _ w hw => ?_, fun g3 => absurd g2 g3⟩
          rw [hw, nI_1]
          exact ih (n + 1) (by omega) hq
  exact key N 0 (by omega) hq
/-- the reference's nameAt -/
theorem s_nameAt {i m N : Nat} (hN : N ≤ 10) (hn : X 48 1 = nI N) (hs : ∀ j, ∃ v, v ≤ 12 ∧ X 51 j = nI v) (hi : i + m ≤ 120) (hq : Q (fst (isN (X 50) (X 51) (X 57) i m) N 0) X Y) : PX10_nameAt (nI i) (nI m) X Y Q := by
  intro I2 I30 h2 h30
  unfold BX10_nameAt_s
  have key : ∀ d n, n + d = N → Q (fst (isN (X 50) (X 51) (X 57) i m) d n) X Y → I2 (nI i) (nI m) (nI n) X Y := by
    intro d
    induction d with
    | zero =>
      intro n hnd hq
      apply h2
      unfold BX10_nameAt_2
      rw [hn, le_nI (by omega) (by omega)]
      exact ⟨fun _ => hq, fun g => absurd (by omega) g⟩
    | succ d ih =>
      intro n hnd hq
      apply h2
      unfold BX10_nameAt_2
      rw [hn, le_nI (by omega) (by omega)]
      refine ⟨fun g => absurd g (by omega), fun _ => ⟨vp_in_nI (by omega) (by omega), ?_⟩⟩
      obtain ⟨v, hv, hsv⟩ := hs n
      rw [cl_nI (show n < 2147483648 by omega)]
      unfold fst at hq
      have no : ∀ k, isN (X 50) (X 51) (X 57) i m n = false → I30 (nI i) (nI m) (nI n) 0 (nI k) X Y := by
        intro k hb
        rw [if_neg (by rw [hb]; decide)] at hq
        apply h30
        unfold BX10_nameAt_30
        have go : ∀ w3 : Int32, w3 = nI n + 1 → I2 (nI i) (nI m) w3 X Y := fun w hw => by
          rw [hw, nI_1]
          exact ih (n + 1) (by omega) hq
        exact ⟨fun _ => ⟨fun _ => go, fun g => absurd rfl g⟩, fun _ => ⟨fun _ => ⟨fun _ => go, fun g => absurd rfl g⟩, fun g => absurd rfl g⟩⟩
      refine ⟨fun g => no 0 ?_, fun g => ?_⟩
      · cases hb : isN (X 50) (X 51) (X 57) i m n with
        | false => rfl
        | true => exact absurd (isN_iff.mp hb).1 g
      · have hm12 : m ≤ 12 := by
          have e : nI m = nI v := g.symm.trans hsv
          rw [eq_nI (by omega) (by omega)] at e
          omega
        have yes : ∀ e k, k + e = m → (∀ j, j < k → X 50 (12 * n + j) = X 57 (i + j) - 97) → I30 (nI i) (nI m) (nI n) 1 (nI k) X Y := by
          intro e
          induction e with
          | zero =>
            intro k hk hall
            apply h30
            unfold BX10_nameAt_30
            rw [le_nI (by omega) (by omega)]
            rw [if_pos (by rw [isN_iff]; exact ⟨g, fun k' hk' => hall k' (by omega)⟩)] at hq
            exact ⟨fun _ => ⟨fun g2 => absurd g2 (by decide), fun _ => hq⟩, fun g2 => absurd (by omega) g2⟩
          | succ e ihe =>
            intro k hk hall
            apply h30
            unfold BX10_nameAt_30
            rw [le_nI (by omega) (by omega)]
            refine ⟨fun g2 => absurd g2 (by omega), fun _ => ⟨fun g2 => absurd g2 (by decide), fun _ => ?_⟩⟩
            rw [mul12', nI_add, cl_nI (by omega), cl_nI (by omega)]
            refine ⟨vp_in_nI (by omega) (by omega), vp_in_nI (by omega) (by omega), fun g2 w hw => ?_, fun g2 w hw => ?_⟩
            · rw [hw, nI_1]
              refine no _ ?_
              cases hb : isN (X 50) (X 51) (X 57) i m n with
              | false => rfl
              | true => exact absurd ((isN_iff.mp hb).2 k (by omega)) g2
            · rw [hw, nI_1]
              refine ihe (k + 1) (by omega) (fun j hj => ?_)
              by_cases hjk : j = k
              · subst hjk
                exact g2
              · exact hall j (by omega)
        exact yes m 0 (by omega) (fun j hj => absurd hj (by omega))
  exact key N 0 (by omega) hq
end TEXT
