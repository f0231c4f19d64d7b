/-! count, never, twins -/
def bcI (p0 : Int32) : Int32 :=
  let w1 := p0 - (((p0.toUInt32 >>> ((1 : Int32).toUInt32 &&& Int32.toUInt32 31)).toInt32) &&& 1431655765)
  let w3 := (w1 &&& 858993459) + (((w1.toUInt32 >>> ((2 : Int32).toUInt32 &&& Int32.toUInt32 31)).toInt32) &&& 858993459)
  let w5 := (w3 + ((w3.toUInt32 >>> ((4 : Int32).toUInt32 &&& Int32.toUInt32 31)).toInt32)) &&& 252645135
  let w7 := w5 + ((w5.toUInt32 >>> ((8 : Int32).toUInt32 &&& Int32.toUInt32 31)).toInt32)
  let w9 := w7 + ((w7.toUInt32 >>> ((16 : Int32).toUInt32 &&& Int32.toUInt32 31)).toInt32)
  w9 &&& 63
def onesI (x : Int32) : Nat → Int32
  | 0 => 0
  | k + 1 => onesI x k + ((x >>> (nI k &&& 31)) &&& 1)
theorem bc_ones : ∀ m, m < 1024 → bcI (nI m) = onesI (nI m) 20 := by decide +kernel
def psI (f : Nat → Int32) : Nat → Int32
  | 0 => 0
  | k + 1 => psI f k + f k
theorem psI_congr {f g : Nat → Int32} : ∀ {n}, (∀ k, k < n → f k = g k) → psI f n = psI g n
  | 0, _ => rfl
  | n + 1, h => by
    unfold psI
    rw [psI_congr (fun k hk => h k (by omega)), h n (by omega)]
theorem pow_le_1024 {m N : Nat} (hN : N ≤ 10) (h : m < 2 ^ N) : m < 1024 := Nat.lt_of_lt_of_le h (Nat.pow_le_pow_right (n := 2) (by decide) hN)
section NEVER
variable {X : XT} {Y : YT} {Q : Int32 → XT → YT → Prop} {K : XT → YT → Prop} {a b c : Int32}
theorem eq_bitCount : PJ6_bitCount_0f7a4 a X Y Q = Q (bcI a) X Y := by
  apply propext
  unfold PJ6_bitCount_0f7a4 BJ6_bitCount_0f7a4_s
  constructor
  · intro g
    exact g _ rfl _ rfl _ rfl _ rfl _ rfl
  · intro g w1 e1 w3 e3 w5 e5 w7 e7 w9 e9
    subst e1 e3 e5 e7 e9
    exact g
theorem s_ones (hq : Q (onesI a 20) X Y) : PX10_ones a X Y Q := by
  intro I4 h4
  unfold BX10_ones_s
  have key : ∀ d k, k + d = 20 → I4 a (onesI a k) (nI k) X Y := by
    intro d
    induction d with
    | zero =>
      intro k hk
      have hk : k = 20 := by omega
      subst hk
      apply h4
      unfold BX10_ones_4
      exact ⟨fun _ => hq, fun g => absurd (by decide) g⟩
    | succ d ih =>
      intro k hk
      apply h4
      unfold BX10_ones_4
      rw [show (20 : Int32) = nI 20 from rfl, le_nI (by omega) (by omega)]
      refine ⟨fun g => absurd g (by omega), fun _ w hw w2 hw2 => ?_⟩
      rw [hw2, nI_1]
      have e : w = onesI a (k + 1) := hw
      rw [e]
      exact ih (k + 1) (by omega)
  exact key 20 0 (by omega)
theorem s_pairs {N : Nat} (hN : N ≤ 10) (hn : X 3 9 = nI N) (hq : Q (psI (fun j => bcI (X 12 j)) N / 2) X Y) : PX1_pairsApart X Y Q := by
  intro I4 h4
  unfold BX1_pairsApart_s
  have key : ∀ d k, k + d = N → I4 (psI (fun j => bcI (X 12 j)) k) (nI k) X Y := by
    intro d
    induction d with
    | zero =>
      intro k hk
      have hk : k = N := by omega
      subst hk
      apply h4
      unfold BX1_pairsApart_4
      rw [hn, le_nI (by omega) (by omega)]
      exact ⟨fun _ => hq, fun g => absurd (by omega) g⟩
    | succ d ih =>
      intro k hk
      apply h4
      unfold BX1_pairsApart_4
      rw [hn, le_nI (by omega) (by omega), eq_bitCount, cl_nI (by omega)]
      refine ⟨fun g => absurd g (by omega), fun _ => ⟨vp_in_nI (by omega) (by omega), fun w hw w2 hw2 => ?_⟩⟩
      rw [hw2, nI_1, hw]
      exact ih (k + 1) (by omega)
  exact key N 0 (by omega)
theorem s_nevers {N : Nat} (hN : N ≤ 10) (hn : X 48 1 = nI N) (hq : Q (psI (fun j => onesI (X 56 j) 20) N / 2) X Y) : PX10_nevers X Y Q := by
  intro I4 h4
  unfold BX10_nevers_s
  have key : ∀ d k, k + d = N → I4 (psI (fun j => onesI (X 56 j) 20) k) (nI k) X Y := by
    intro d
    induction d with
    | zero =>
      intro k hk
      have hk : k = N := by omega
      subst hk
      apply h4
      unfold BX10_nevers_4
      rw [hn, le_nI (by omega) (by omega)]
      exact ⟨fun _ => hq, fun g => absurd (by omega) g⟩
    | succ d ih =>
      intro k hk
      apply h4
      unfold BX10_nevers_4
      rw [hn, le_nI (by omega) (by omega), cl_nI (by omega)]
      refine ⟨fun g => absurd g (by omega), fun _ => ⟨vp_in_nI (by omega) (by omega), s_ones (fun w hw w2 hw2 => ?_)⟩⟩
      rw [hw2, nI_1, hw]
      exact ih (k + 1) (by omega)
  exact key N 0 (by omega)
theorem pr_count (h : Inv X) (hK : ∀ X2, Inv X2 → K X2 Y) : PX9_count a X Y (fun r X1 Y1 => PX10_count a X1 Y1 (Kq K r)) := by
  obtain ⟨hS, hk, hF, hT, hN, hA, hV, hP, hW, hR⟩ := id h
  obtain ⟨N, hN10, hn, hn'⟩ := inv_n h
  unfold PX9_count BX9_count_s PX10_count BX10_count_s
  refine ⟨fun g => ?_, fun g => ?_, fun g => ?_, fun g => ?_, fun g => ?_, fun g => ?_, fun g => ?_, fun g => ?_, fun g => ?_, fun g => ?_⟩
  · have ne : ∀ k : Int32, 0 ≤ k.toInt → k.toInt ≤ 8 → a = k → False := fun k h1 h2 e => by subst e; omega
    exact ⟨fun _ => kq rfl (hK _ h), fun e => (ne 0 (by decide) (by decide) e).elim, fun e => (ne 1 (by decide) (by decide) e).elim, fun e => (ne 2 (by decide) (by decide) e).elim, fun e => (ne 3 (by decide) (by decide) e).elim, fun e => (ne 4 (by decide) (by decide) e).elim, fun e => (ne 5 (by decide) (by decide) e).elim, fun e => (ne 6 (by decide) (by decide) e).elim, fun e => (ne 7 (by decide) (by decide) e).elim, fun e => (ne 8 (by decide) (by decide) e).elim⟩
  · subst g
    exact ⟨fun g' => absurd g' (by decide), fun _ => kq hN.1 (hK _ h), fun g' => absurd g' (by decide), fun g' => absurd g' (by decide), fun g' => absurd g' (by decide), fun g' => absurd g' (by decide), fun g' => absurd g' (by decide), fun g' => absurd g' (by decide), fun g' => absurd g' (by decide), fun g' => absurd g' (by decide)⟩
  · subst g
    exact ⟨fun g' => absurd g' (by decide), fun g' => absurd g' (by decide), fun _ => kq hP.1 (hK _ h), fun g' => absurd g' (by decide), fun g' => absurd g' (by decide), fun g' => absurd g' (by decide), fun g' => absurd g' (by decide), fun g' => absurd g' (by decide), fun g' => absurd g' (by decide), fun g' => absurd g' (by decide)⟩
  · subst g
    exact ⟨fun g' => absurd g' (by decide), fun g' => absurd g' (by decide), fun g' => absurd g' (by decide), fun _ => kq hP.2.1 (hK _ h), fun g' => absurd g' (by decide), fun g' => absurd g' (by decide), fun g' => absurd g' (by decide), fun g' => absurd g' (by decide), fun g' => absurd g' (by decide), fun g' => absurd g' (by decide)⟩
  · subst g
    exact ⟨fun g' => absurd g' (by decide), fun g' => absurd g' (by decide), fun g' => absurd g' (by decide), fun g' => absurd g' (by decide), fun _ => kq hP.2.2.1 (hK _ h), fun g' => absurd g' (by decide), fun g' => absurd g' (by decide), fun g' => absurd g' (by decide), fun g' => absurd g' (by decide), fun g' => absurd g' (by decide)⟩
  · subst g
    exact ⟨fun g' => absurd g' (by decide), fun g' => absurd g' (by decide), fun g' => absurd g' (by decide), fun g' => absurd g' (by decide), fun g' => absurd g' (by decide), fun _ => kq hW.1 (hK _ h), fun g' => absurd g' (by decide), fun g' => absurd g' (by decide), fun g' => absurd g' (by decide), fun g' => absurd g' (by decide)⟩
  · subst g
    refine s_pairs hN10 hn' ?_
    exact ⟨fun g' => absurd g' (by decide), fun g' => absurd g' (by decide), fun g' => absurd g' (by decide), fun g' => absurd g' (by decide), fun g' => absurd g' (by decide), fun g' => absurd g' (by decide), fun _ => s_nevers hN10 hn (kq (congrArg (fun z => z / 2) (psI_congr (fun k hk => by obtain ⟨v1, M, v2, v3, f, v4, v5, v6⟩ := id hV; rw [v1, v4 k]; exact bc_ones _ (pow_le_1024 v2 (v5 k))))) (hK _ h)), fun g' => absurd g' (by decide), fun g' => absurd g' (by decide), fun g' => absurd g' (by decide)⟩
  · subst g
    exact ⟨fun g' => absurd g' (by decide), fun g' => absurd g' (by decide), fun g' => absurd g' (by decide), fun g' => absurd g' (by decide), fun g' => absurd g' (by decide), fun g' => absurd g' (by decide), fun g' => absurd g' (by decide), fun _ => kq hT.1 (hK _ h), fun g' => absurd g' (by decide), fun g' => absurd g' (by decide)⟩
  · subst g
    exact ⟨fun g' => absurd g' (by decide), fun g' => absurd g' (by decide), fun g' => absurd g' (by decide), fun g' => absurd g' (by decide), fun g' => absurd g' (by decide), fun g' => absurd g' (by decide), fun g' => absurd g' (by decide), fun g' => absurd g' (by decide), fun _ => kq hS.1 (hK _ h), fun g' => absurd g' (by decide)⟩
  · subst g
    rw [eq_bitCount]
    exact ⟨fun g' => absurd g' (by decide), fun g' => absurd g' (by decide), fun g' => absurd g' (by decide), fun g' => absurd g' (by decide), fun g' => absurd g' (by decide), fun g' => absurd g' (by decide), fun g' => absurd g' (by decide), fun g' => absurd g' (by decide), fun g' => absurd g' (by decide), fun _ => s_ones (kq (by obtain ⟨k1, M, m, k2, k3, k4, k5⟩ := hk; rw [k1, k5]; exact bc_ones m (pow_le_1024 k2 k4)) (hK _ h))⟩
theorem inv_v (h : Inv X) {N : Nat} (hN : N ≤ 10) (hn : X 48 1 = nI N) : X 12 = X 56 ∧ ∃ f : Nat → Nat, (∀ j, X 56 j = nI (f j)) ∧ (∀ j, f j < 2 ^ N) ∧ ∀ i j, (f i).testBit j = (f j).testBit i := by
  obtain ⟨v1, M, v2, v3, f, v4, v5, v6⟩ := h.2.2.2.2.2.2.1
  have e := v3.symm.trans hn
  rw [bx_inj (by omega) (by omega)] at e
  subst e
  exact ⟨v1, f, v4, v5, v6⟩
/-- the sets behind never(n, m, is) -/
def nvF (f : Nat → Nat) (n m : Nat) (is : Bool) : Nat → Nat := fun j => if j = m then (if is then f m ||| 2 ^ n else f m ^^^ (f m &&& 2 ^ n)) else if j = n then (if is then f n ||| 2 ^ m else f n ^^^ (f n &&& 2 ^ m)) else f j
theorem nv_bit {x k i : Nat} (is : Bool) : (if is then x ||| 2 ^ k else x ^^^ (x &&& 2 ^ k)).testBit i = if i = k then is else x.testBit i := by
  cases is with
  | true =>
    simp only [if_true, Nat.testBit_or, Nat.testBit_two_pow]
    by_cases h : i = k
    · subst h
      simp
    · have h2 : ¬ k = i := fun e => h e.symm
      simp [h, h2]
  | false =>
    simp only [Bool.false_eq_true, if_false, Nat.testBit_xor, Nat.testBit_and, Nat.testBit_two_pow]
    by_cases h : i = k
    · subst h
      cases x.testBit i <;> simp
    · have h2 : ¬ k = i := fun e => h e.symm
      simp [h, h2]
theorem nv_lt {x k N : Nat} (hx : x < 2 ^ N) (hk : k < N) (is : Bool) : (if is then x ||| 2 ^ k else x ^^^ (x &&& 2 ^ k)) < 2 ^ N := by
  have h2 : (2 : Nat) ^ k < 2 ^ N := Nat.pow_lt_pow_right (by decide) hk
  cases is with
  | true => exact Nat.or_lt_two_pow hx h2
  | false => exact Nat.xor_lt_two_pow hx (Nat.and_lt_two_pow _ h2)
theorem nv_xor {x k : Nat} : x ^^^ 2 ^ k = (if !(x.testBit k) then x ||| 2 ^ k else x ^^^ (x &&& 2 ^ k)) := by
  apply Nat.eq_of_testBit_eq
  intro i
  rw [nv_bit, Nat.testBit_xor, Nat.testBit_two_pow]
  by_cases h : i = k
  · subst h
    cases x.testBit i <;> simp
  · have h2 : ¬ k = i := fun e => h e.symm
    simp [h, h2]
theorem nv_same {x k : Nat} : x = (if x.testBit k then x ||| 2 ^ k else x ^^^ (x &&& 2 ^ k)) := by
  apply Nat.eq_of_testBit_eq
  intro i
  rw [nv_bit]
  by_cases h : i = k
  · subst h
    simp
  · simp [h]
theorem pr_never {Z : Int32 → XT → YT → Prop} (hc : c = 0 ∨ c = 1) (h : Inv X) (hK : ∀ X2, Inv X2 → K X2 Y) (hZ : ∀ r X1, PX10_never a b c X1 Y (Kq K r) → Z r X1 Y) : PX9_never a b c X Y Z := by
  obtain ⟨hS, hk, hF, hT, hN, hA, hV, hP, hW, hR⟩ := id h
  obtain ⟨N, hN10, hn, hn'⟩ := inv_n h
  obtain ⟨v1, f, v4, v5, v6⟩ := inv_v h hN10 hn
  have bad : (¬ (0 ≤ a ∧ a ≤ nI N - 1) ∨ ¬ (0 ≤ b ∧ b ≤ nI N - 1) ∨ a = b) → PX10_never a b c X Y (Kq K (-1001)) := by
    intro hb I71 h71
    unfold BX10_never_s
    rw [eq_noName, eq_noName, hn]
    simp only [bI_0, Classical.not_not]
    refine ⟨fun _ => kq rfl (hK _ h), fun g1 => ⟨fun _ => kq rfl (hK _ h), fun g2 => ⟨fun g3 => ?_, fun _ => kq rfl (hK _ h)⟩⟩⟩
    rcases hb with z | z | z
    · exact absurd g1 z
    · exact absurd g2 z
    · exact absurd z g3
  unfold PX9_never BX9_never_s
  rw [eq_isKnown, eq_isKnown, hn']
  simp only [bI_0, Classical.not_not]
  refine ⟨fun g1 => hZ _ _ (bad (Or.inl g1)), fun g1 => ⟨fun g2 => hZ _ _ (bad (Or.inr (Or.inl g2))), fun g2 => ⟨fun g3 => ?_, fun g3 => hZ _ _ (bad (Or.inr (Or.inr g3)))⟩⟩⟩
  obtain ⟨x, hx, rfl⟩ := kn_of (N := N) (by omega) g1
  obtain ⟨y, hy, rfl⟩ := kn_of (N := N) (by omega) g2
  have hxy : x ≠ y := fun e => g3 (by rw [e])
  have fs : ∀ j, f j < 2147483648 := fun j => by have := pow_le_1024 hN10 (v5 j); omega
  obtain ⟨is, his⟩ : ∃ is : Bool, c = nI is.toNat := by
    rcases hc with rfl | rfl
    · exact ⟨false, rfl⟩
    · exact ⟨true, rfl⟩
  subst his
  -- what both sides come to
  have fin : ∀ X1 : XT, (∀ q, q ≠ 12 → q ≠ 56 → X1 q = X q) → X1 12 = (fun j => nI (nvF f x y is j)) → X1 56 = (fun j => nI (nvF f x y is j)) → Inv X1 := by
    intro X1 ne e12 e56
    unfold Inv
    rw [e12, e56]
    simp only [ne 0 (by decide) (by decide), ne 1 (by decide) (by decide), ne 2 (by decide) (by decide), ne 3 (by decide) (by decide), ne 4 (by decide) (by decide), ne 5 (by decide) (by decide), ne 6 (by decide) (by decide), ne 7 (by decide) (by decide), ne 8 (by decide) (by decide), ne 9 (by decide) (by decide), ne 10 (by decide) (by decide), ne 11 (by decide) (by decide), ne 13 (by decide) (by decide), ne 14 (by decide) (by decide), ne 15 (by decide) (by decide), ne 16 (by decide) (by decide), ne 17 (by decide) (by decide), ne 18 (by decide) (by decide), ne 19 (by decide) (by decide), ne 20 (by decide) (by decide), ne 21 (by decide) (by decide), ne 22 (by decide) (by decide), ne 23 (by decide) (by decide), ne 29 (by decide) (by decide), ne 30 (by decide) (by decide), ne 48 (by decide) (by decide), ne 49 (by decide) (by decide), ne 50 (by decide) (by decide), ne 51 (by decide) (by decide), ne 52 (by decide) (by decide), ne 53 (by decide) (by decide), ne 54 (by decide) (by decide), ne 55 (by decide) (by decide), ne 57 (by decide) (by decide), ne 58 (by decide) (by decide), ne 59 (by decide) (by decide), ne 60 (by decide) (by decide), ne 61 (by decide) (by decide), ne 62 (by decide) (by decide), ne 63 (by decide) (by decide), ne 64 (by decide) (by decide), ne 65 (by decide) (by decide), ne 66 (by decide) (by decide), ne 67 (by decide) (by decide), ne 78 (by decide) (by decide), ne 79 (by decide) (by decide)]
    refine ⟨hS, hk, hF, hT, hN, hA, ⟨rfl, N, hN10, hn, nvF f x y is, fun j => rfl, fun j => ?_, fun i j => ?_⟩, hP, hW, hR⟩
    · unfold nvF
      split
      · exact nv_lt (v5 y) hx is
      · split
        · exact nv_lt (v5 x) hy is
        · exact v5 j
    · have key : ∀ i j, (nvF f x y is i).testBit j = if (i = x ∧ j = y) ∨ (i = y ∧ j = x) then is else (f i).testBit j := by
        intro i j
        unfold nvF
        by_cases hi : i = y
        · subst hi
          rw [if_pos rfl, nv_bit]
          by_cases hj : j = x
          · rw [if_pos hj, if_pos (Or.inr ⟨rfl, hj⟩)]
          · rw [if_neg hj, if_neg (by rintro (⟨e, -⟩ | ⟨-, e⟩); exact hxy e.symm; exact hj e)]
        · rw [if_neg hi]
          by_cases hi2 : i = x
          · subst hi2
            rw [if_pos rfl, nv_bit]
            by_cases hj : j = y
            · rw [if_pos hj, if_pos (Or.inl ⟨rfl, hj⟩)]
            · rw [if_neg hj, if_neg (by rintro (⟨-, e⟩ | ⟨e, -⟩); exact hj e; exact hi e)]
          · rw [if_neg hi2, if_neg (by rintro (⟨e, -⟩ | ⟨e, -⟩); exact hi2 e; exact hi e)]
      rw [key i j, key j i]
      by_cases hc : (i = x ∧ j = y) ∨ (i = y ∧ j = x)
      · rw [if_pos hc, if_pos (by rcases hc with ⟨e1, e2⟩ | ⟨e1, e2⟩; exact Or.inr ⟨e2, e1⟩; exact Or.inl ⟨e2, e1⟩)]
      · rw [if_neg hc, if_neg (by rintro (⟨e1, e2⟩ | ⟨e1, e2⟩); exact hc (Or.inr ⟨e2, e1⟩); exact hc (Or.inl ⟨e2, e1⟩))]
        exact v6 i j
  have ref : ∀ (r : Int32) (X1 : XT), r = nI ((f x).testBit y).toNat → (∀ q, q ≠ 12 → X1 q = X q) → X1 12 = (fun j => nI (nvF f x y is j)) → PX10_never (nI x) (nI y) (nI is.toNat) X1 Y (Kq K r) := by
    intro r X1 hr ne e12 I71 h71
    unfold BX10_never_s
    rw [eq_noName, eq_noName, ne 48 (by decide), hn]
    simp only [bI_0, Classical.not_not]
    refine ⟨fun z => absurd g1 z, fun _ => ⟨fun z => absurd g2 z, fun _ => ⟨fun _ => ⟨vp_in_nI (by omega) (by omega), fun w hw => ?_⟩, fun z => absurd z g3⟩⟩⟩
    rw [ne 56 (by decide), cl_nI (by omega), v4 x, bx_bit (fs x) (by omega)] at hw
    have step : ∀ t0 : Int32, t0 = nI (if is then f x ||| 2 ^ y else f x ^^^ (f x &&& 2 ^ y)) → I71 (nI x) (nI y) (nI is.toNat) w t0 (nI x) X1 Y := by
      intro t0 ht0
      apply h71
      unfold BX10_never_71
      rw [cl_nI (show x < 2147483648 by omega), cl_nI (show y < 2147483648 by omega)]
      have e : sX X1 56 x t0 56 y = nI (f y) := by
        rw [sX_eq, ne 56 (by decide)]
        unfold upd
        rw [if_neg (fun e => hxy e.symm), v4 y]
      rw [e, bx_1shl (by omega)]
      have done : ∀ X2 : XT, X2 = sX (sX X1 56 x t0) 56 y (nI (if is then f y ||| 2 ^ x else f y ^^^ (f y &&& 2 ^ x))) → Kq K r w X2 Y := by
        intro X2 hX2
        refine kq (by rw [hr, hw]) (hK _ (fin X2 (fun q h1 h2 => ?_) ?_ ?_))
        · rw [hX2, sX_ne h2, sX_ne h2, ne q h1]
        · rw [hX2, sX_ne (by decide), sX_ne (by decide), e12]
        · rw [hX2, sX_eq, sX_eq, ne 56 (by decide)]
          funext j
          unfold upd nvF
          by_cases hj : j = y
          · rw [if_pos hj, if_pos hj]
          · rw [if_neg hj, if_neg hj]
            by_cases hj2 : j = x
            · rw [if_pos hj2, if_pos hj2, ht0]
            · rw [if_neg hj2, if_neg hj2, v4 j]
      refine ⟨vp_in_nI (by omega) (by omega), fun g => ⟨vp_in_nI (by omega) (by omega), vp_in_nI (by omega) (by omega), fun X2 hX2 => ?_⟩, fun g => ⟨vp_in_nI (by omega) (by omega), vp_in_nI (by omega) (by omega), fun X2 hX2 => ?_⟩⟩
      · have hf : is = false := by cases is with
          | false => rfl
          | true => exact absurd g (by decide)
        rw [bx_andnot (by have := fs y; omega)] at hX2
        exact done X2 (by rw [hX2, hf]; rfl)
      · have hf : is = true := by cases is with
          | true => rfl
          | false => exact absurd rfl g
        rw [bx_or] at hX2
        exact done X2 (by rw [hX2, hf]; rfl)
    refine ⟨fun g => ⟨vp_in_nI (by omega) (by omega), step _ ?_⟩, fun g => ⟨vp_in_nI (by omega) (by omega), step _ ?_⟩⟩
    · have hf : is = false := by cases is with
        | false => rfl
        | true => exact absurd g (by decide)
      rw [ne 56 (by decide), cl_nI (by omega), v4 x, bx_1shl (by omega), bx_andnot (by have := fs x; omega), hf]
      rfl
    · have hf : is = true := by cases is with
        | true => rfl
        | false => exact absurd rfl g
      rw [ne 56 (by decide), cl_nI (by omega), v4 x, bx_1shl (by omega), bx_or, hf]
      rfl
  unfold PX1_setApart BX1_setApart_s
  rw [cl_nI (show x < 2147483648 by omega), cl_nI (show y < 2147483648 by omega), eq_has, v1, v4 x]
  have er : bI (¬ (nI (f x) >>> (nI y &&& 31)) &&& 1 = 0) = nI ((f x).testBit y).toNat := by
    simp only [bx_bit0 (fs x) (show y < 32 by omega)]
    cases (f x).testBit y <;> rfl
  refine ⟨vp_in_nI (by omega) (by omega), ?_⟩
  rw [er]
  have out : ∀ X1 : XT, (∀ q, q ≠ 12 → X1 q = X q) → X1 12 = (fun j => nI (nvF f x y is j)) → ((nI ((f x).testBit y).toNat = 0 → Z 0 X1 Y) ∧ (¬ nI ((f x).testBit y).toNat = 0 → Z 1 X1 Y)) := by
    intro X1 ne e12
    cases hb : (f x).testBit y with
    | false => exact ⟨fun _ => hZ _ _ (ref _ X1 (by rw [hb]; rfl) ne e12), fun g => absurd rfl g⟩
    | true => exact ⟨fun g => absurd g (by decide), fun _ => hZ _ _ (ref _ X1 (by rw [hb]; rfl) ne e12)⟩
  refine ⟨fun g => ⟨by rw [← er]; exact bI_nar, out X (fun q _ => rfl) ?_⟩, fun g => ⟨vp_in_nI (by omega) (by omega), vp_in_nI (by omega) (by omega), fun X6 hX6 => ⟨vp_in_nI (by omega) (by omega), vp_in_nI (by omega) (by omega), fun X8 hX8 => ⟨by rw [← er]; exact bI_nar, out X8 (fun q hq => ?_) ?_⟩⟩⟩⟩
  · have hb : (f x).testBit y = is := by
      cases h1 : (f x).testBit y <;> cases is <;> first | rfl | (rw [h1] at g; exact absurd g (by decide))
    rw [v1]
    funext j
    rw [v4 j]
    congr 1
    unfold nvF
    by_cases hj : j = y
    · rw [if_pos hj, hj, ← hb, v6 x y]
      exact nv_same
    · rw [if_neg hj]
      by_cases hj2 : j = x
      · rw [if_pos hj2, hj2, ← hb]
        exact nv_same
      · rw [if_neg hj2]
  · rw [hX8, sX_ne hq, hX6, sX_ne hq]
  · have hb : is = !(f x).testBit y := by
      cases h1 : (f x).testBit y <;> cases is <;> first | rfl | (rw [h1] at g; exact absurd rfl g)
    have e6 : X6 12 y = nI (f y) := by
      rw [hX6, sX_eq]
      unfold upd
      rw [if_neg (fun e => hxy e.symm), v1, v4 y]
    rw [hX8, e6, bx_1shl (by omega), bx_xor, hX6, sX_eq, sX_eq, bx_1shl (by omega), bx_xor, v1]
    funext j
    unfold upd nvF
    by_cases hj : j = y
    · rw [if_pos hj, if_pos hj, hb, v6 x y, nv_xor]
    · rw [if_neg hj, if_neg hj]
      by_cases hj2 : j = x
      · rw [if_pos hj2, if_pos hj2, hb, nv_xor]
      · rw [if_neg hj2, if_neg hj2, v4 j]
end NEVER
