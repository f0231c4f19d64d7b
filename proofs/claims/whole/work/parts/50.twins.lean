/-! twins -/
section TWINS
variable {X : XT} {Y : YT} {Q : Int32 → XT → YT → Prop} {K : XT → YT → Prop} {a b : Int32}
theorem s_twinsM {B T x y : Nat} (hB : B ≤ 10) (hb : X 48 22 = nI B) (hT : T ≤ 10) (ht : X 48 24 = nI T) (hx : x < B) (hy : y < B) (hxy : x ≠ y) (q1 : prd (X 66) (X 67) T x y → Q (-1003) X Y) (q2 : ¬ prd (X 66) (X 67) T x y → T = 10 → Q (-1004) X Y) (q3 : ¬ prd (X 66) (X 67) T x y → T < 10 → Q (nI (T + 1)) (sX (sX (sX X 66 T (nI x)) 67 T (nI y)) 48 24 (nI (T + 1))) Y) : PX10_twins (nI x) (nI y) X Y Q := by
  intro I27 I55 h27 h55
  unfold BX10_twins_s
  have cx : 0 ≤ nI x ∧ nI x ≤ nI B - 1 := ⟨nI_pos' (by omega), by rw [show (1 : Int32) = nI 1 from rfl, pk_sub (by omega), le_nI (by omega) (by omega)]; omega⟩
  have cy : 0 ≤ nI y ∧ nI y ≤ nI B - 1 := ⟨nI_pos' (by omega), by rw [show (1 : Int32) = nI 1 from rfl, pk_sub (by omega), le_nI (by omega) (by omega)]; omega⟩
  rw [eq_noBar, eq_noBar, hb]
  simp only [bI_0, Classical.not_not]
  refine ⟨fun z => absurd cx z, fun _ => ⟨fun z => absurd cy z, fun _ => ⟨fun _ => ?_, fun z => absurd z (by rw [eq_nI (by omega) (by omega)]; exact hxy)⟩⟩⟩
  have key : ∀ d k, k + d = T → (∀ t, t < k → ¬ ((X 66 t = nI x ∧ X 67 t = nI y) ∨ (X 66 t = nI y ∧ X 67 t = nI x))) → I27 (nI x) (nI y) (nI k) X Y := by
    intro d
    induction d with
    | zero =>
      intro k hk hall
      have hk : k = T := by omega
      subst hk
      have hn : ¬ prd (X 66) (X 67) k x y := fun ⟨t, h1, h2⟩ => hall t h1 h2
      apply h27
      unfold BX10_twins_27
      rw [ht, le_nI (by omega) (by omega)]
      refine ⟨fun _ => ?_, fun g => absurd (by omega) g⟩
      rw [show (10 : Int32) = nI 10 from rfl, eq_nI (by omega) (by omega), cl_nI (by omega)]
      refine ⟨fun g => ?_, fun g => q2 hn g⟩
      have e1 : sX X 66 k (nI x) 48 24 = nI k := by rw [sX_ne (by decide), ht]
      rw [e1, cl_nI (by omega)]
      refine ⟨vp_in_nI (by omega) (by omega), vp_in_nI (by omega) (by omega), fun X3 hX3 => ?_⟩
      have e3 : X3 48 24 = nI k := by rw [hX3, sX_ne (by decide), e1]
      rw [e3, nI_1]
      have e4 : sX X3 48 24 (nI (k + 1)) 48 24 = nI (k + 1) := by rw [sX_eq]; simp [upd]
      rw [e4, hX3]
      exact q3 hn (by omega)
    | succ d ih =>
      intro k hk hall
      apply h27
      unfold BX10_twins_27
      rw [ht, le_nI (by omega) (by omega)]
      refine ⟨fun g => absurd g (by omega), fun _ => ⟨vp_in_nI (by omega) (by omega), ?_⟩⟩
      rw [cl_nI (by omega)]
      have nx : ¬ ((X 66 k = nI x ∧ X 67 k = nI y) ∨ (X 66 k = nI y ∧ X 67 k = nI x)) → ∀ w : Int32, w = nI k + 1 → I27 (nI x) (nI y) w X Y := by
        intro hn w hw
        rw [hw, nI_1]
        refine ih (k + 1) (by omega) (fun t ht => ?_)
        by_cases e : t = k
        · subst e
          exact hn
        · exact hall t (by omega)
      have yes : ((X 66 k = nI x ∧ X 67 k = nI y) ∨ (X 66 k = nI y ∧ X 67 k = nI x)) → Q (-1003) X Y := fun g => q1 ⟨k, by omega, g⟩
      have s55 : ¬ (X 66 k = nI x ∧ X 67 k = nI y) → I55 (nI x) (nI y) (nI k) X Y := by
        intro hn
        apply h55
        unfold BX10_twins_55
        rw [cl_nI (by omega)]
        refine ⟨vp_in_nI (by omega) (by omega), fun g => nx (fun z => z.elim hn (fun z => g z.1)), fun g => ⟨vp_in_nI (by omega) (by omega), fun g2 => nx (fun z => z.elim hn (fun z => g2 z.2)), fun g2 => yes (Or.inr ⟨g, g2⟩)⟩⟩
      exact ⟨fun g => s55 (fun z => g z.1), fun g => ⟨vp_in_nI (by omega) (by omega), fun g2 => yes (Or.inl ⟨g, g2⟩), fun g2 => s55 (fun z => g2 z.2)⟩⟩
  exact key T 0 (by omega) (fun t ht => absurd ht (by omega))
theorem pr_twins (h : Inv X) (hK : ∀ X2, Inv X2 → K X2 Y) : PX9_twins a b X Y (fun r X1 Y1 => PX10_twins a b X1 Y1 (Kq K r)) := by
  obtain ⟨hS, hk, hF, hT, hN, hA, hV, hP, hW, hR⟩ := id h
  obtain ⟨w1, B, T, w2, w3, w4, w5, w6, f, w7, w8, w9⟩ := id hW
  have hb : X 13 13 = nI B := hP.2.2.1.trans w3
  have bad : (¬ (0 ≤ a ∧ a ≤ nI B - 1) ∨ ¬ (0 ≤ b ∧ b ≤ nI B - 1) ∨ a = b) → PX10_twins a b X Y (Kq K (-1001)) := by
    intro hb I27 I55 h27 h55
    unfold BX10_twins_s
    rw [eq_noBar, eq_noBar, w3]
    simp only [bI_0, Classical.not_not]
    refine ⟨fun _ => kq rfl (hK _ h), fun g1 => ⟨fun _ => kq rfl (hK _ h), fun g2 => ⟨fun g3 => ?_, fun _ => kq rfl (hK _ h)⟩⟩⟩
    rcases hb with z | z | z
    · exact absurd g1 z
    · exact absurd g2 z
    · exact absurd z g3
  unfold PX9_twins BX9_twins_s
  rw [eq_isBar, eq_isBar, hb]
  simp only [bI_0, Classical.not_not]
  refine ⟨fun g1 => bad (Or.inl g1), fun g1 => ⟨fun g2 => bad (Or.inr (Or.inl g2)), fun g2 => ⟨fun g3 => ?_, fun g3 => bad (Or.inr (Or.inr g3))⟩⟩⟩
  obtain ⟨x, hx, rfl⟩ := kn_of (N := B) (by omega) g1
  obtain ⟨y, hy, rfl⟩ := kn_of (N := B) (by omega) g2
  have hxy : x ≠ y := fun e => g3 (by rw [e])
  have fs : ∀ j, f j < 2147483648 := fun j => by have := w8 j; omega
  refine ⟨vp_in_nI (by omega) (by omega), ?_⟩
  rw [cl_nI (show x < 2147483648 by omega), eq_has, w7 x]
  simp only [bI_0, Classical.not_not, bx_bit0 (fs x) (show y < 32 by omega)]
  refine ⟨fun hbit => ?_, fun hbit => ?_⟩
  · have hnp : ¬ prd (X 66) (X 67) T x y := fun g => by
      have := (w9 x y (by omega) (by omega)).mpr g
      rw [hbit] at this
      cases this
    rw [w1, w5, i_lt, show (10 : Int32) = nI 10 from rfl, le_nI (by omega) (by omega)]
    refine ⟨fun g => ?_, fun g => s_twinsM w2 w3 w4 w5 hx hy hxy (fun z => absurd z hnp) (fun _ _ => kq rfl (hK _ h)) (fun _ z => absurd z (by omega))⟩
    unfold PX3_pair BX3_pair_s
    rw [cl_nI (show x < 2147483648 by omega), cl_nI (show y < 2147483648 by omega), w7 x, bx_1shl (by omega), bx_or]
    refine ⟨vp_in_nI (by omega) (by omega), vp_in_nI (by omega) (by omega), fun X1 hX1 => ?_⟩
    have e1 : X1 23 y = nI (f y) := by
      rw [hX1, sX_eq]
      unfold upd
      rw [if_neg (fun e => hxy e.symm), w7 y]
    rw [e1, bx_1shl (by omega), bx_or]
    refine ⟨vp_in_nI (by omega) (by omega), vp_in_nI (by omega) (by omega), fun X3 hX3 => ?_⟩
    have e3 : X3 13 14 = nI T := by rw [hX3, sX_ne (by decide), hX1, sX_ne (by decide), w1, w5]
    rw [e3, nI_1]
    have e4 : sX X3 13 14 (nI (T + 1)) 13 14 = nI (T + 1) := by rw [sX_eq]; simp [upd]
    show PX10_twins (nI x) (nI y) (sX X3 13 14 (nI (T + 1))) Y (Kq K (sX X3 13 14 (nI (T + 1)) 13 14))
    rw [e4]
    have e5 : ∀ q, q ≠ 13 → q ≠ 23 → sX X3 13 14 (nI (T + 1)) q = X q := fun q h1 h2 => by rw [sX_ne h1, hX3, sX_ne h2, hX1, sX_ne h2]
    refine s_twinsM (B := B) (T := T) w2 (by rw [e5 48 (by decide) (by decide)]; exact w3) w4 (by rw [e5 48 (by decide) (by decide)]; exact w5) hx hy hxy (fun z => absurd z (by rw [e5 66 (by decide) (by decide), e5 67 (by decide) (by decide)]; exact hnp)) (fun _ z => absurd z (by omega)) (fun _ _ => kq rfl (hK _ ?_))
    subst hX3 hX1
    refine ⟨hS, hk, hF, hT, hN, hA, hV, hP, ⟨rfl, B, T + 1, w2, w3, by omega, rfl, ?_, fun j => if j = y then f y ||| 2 ^ x else if j = x then f x ||| 2 ^ y else f j, ?_, ?_, ?_⟩, hR⟩
    · intro k hk
      show ∃ x' y', x' < B ∧ y' < B ∧ x' ≠ y' ∧ upd (X 66) T (nI x) k = nI x' ∧ upd (X 67) T (nI y) k = nI y'
      unfold upd
      by_cases e : k = T
      · rw [if_pos e, if_pos e]
        exact ⟨x, y, hx, hy, hxy, rfl, rfl⟩
      · rw [if_neg e, if_neg e]
        exact w6 k (by omega)
    · intro j
      show upd (upd (X 23) x (nI (f x ||| 2 ^ y))) y (nI (f y ||| 2 ^ x)) j = nI (if j = y then f y ||| 2 ^ x else if j = x then f x ||| 2 ^ y else f j)
      unfold upd
      by_cases e1 : j = y
      · rw [if_pos e1, if_pos e1]
      · rw [if_neg e1, if_neg e1]
        by_cases e2 : j = x
        · rw [if_pos e2, if_pos e2]
        · rw [if_neg e2, if_neg e2, w7 j]
    · intro j
      show (if j = y then f y ||| 2 ^ x else if j = x then f x ||| 2 ^ y else f j) < 1024
      have hx2 : (2 : Nat) ^ x < 2 ^ 10 := Nat.pow_lt_pow_right (by decide) (by omega)
      have hy2 : (2 : Nat) ^ y < 2 ^ 10 := Nat.pow_lt_pow_right (by decide) (by omega)
      by_cases e1 : j = y
      · rw [if_pos e1]
        exact Nat.or_lt_two_pow (n := 10) (w8 y) hx2
      · rw [if_neg e1]
        by_cases e2 : j = x
        · rw [if_pos e2]
          exact Nat.or_lt_two_pow (n := 10) (w8 x) hy2
        · rw [if_neg e2]
          exact w8 j
    · intro i j hi hj
      show ((if i = y then f y ||| 2 ^ x else if i = x then f x ||| 2 ^ y else f i).testBit j = true) ↔ prd (upd (X 66) T (nI x)) (upd (X 67) T (nI y)) (T + 1) i j
      have hp : prd (upd (X 66) T (nI x)) (upd (X 67) T (nI y)) (T + 1) i j ↔ prd (X 66) (X 67) T i j ∨ (i = x ∧ j = y) ∨ (i = y ∧ j = x) := by
        constructor
        · rintro ⟨t, ht, g⟩
          unfold upd at g
          by_cases e : t = T
          · rw [if_pos e, if_pos e] at g
            right
            rcases g with ⟨g1, g2⟩ | ⟨g1, g2⟩
            · rw [eq_nI (by omega) (by omega)] at g1 g2
              exact Or.inl ⟨g1.symm, g2.symm⟩
            · rw [eq_nI (by omega) (by omega)] at g1 g2
              exact Or.inr ⟨g2.symm, g1.symm⟩
          · rw [if_neg e, if_neg e] at g
            exact Or.inl ⟨t, by omega, g⟩
        · rintro (⟨t, ht, g⟩ | ⟨rfl, rfl⟩ | ⟨rfl, rfl⟩)
          · refine ⟨t, by omega, ?_⟩
            unfold upd
            rw [if_neg (by omega), if_neg (by omega)]
            exact g
          · refine ⟨T, by omega, ?_⟩
            unfold upd
            rw [if_pos rfl, if_pos rfl]
            exact Or.inl ⟨rfl, rfl⟩
          · refine ⟨T, by omega, ?_⟩
            unfold upd
            rw [if_pos rfl, if_pos rfl]
            exact Or.inr ⟨rfl, rfl⟩
      rw [hp, ← w9 i j hi hj]
      by_cases e1 : i = y
      · subst e1
        rw [if_pos rfl, Nat.testBit_or, Nat.testBit_two_pow]
        by_cases e2 : x = j
        · subst e2
          simp
        · have e3 : ¬ j = x := fun e => e2 e.symm
          have e4 : ¬ i = x := fun e => hxy e.symm
          simp [e2, e3, e4]
      · rw [if_neg e1]
        by_cases e2 : i = x
        · subst e2
          rw [if_pos rfl, Nat.testBit_or, Nat.testBit_two_pow]
          by_cases e3 : y = j
          · subst e3
            simp
          · have e4 : ¬ j = y := fun e => e3 e.symm
            have e5 : ¬ i = y := hxy
            simp [e5, e3, e4]
        · rw [if_neg e2]
          simp [e1, e2]
  · have hbit : (f x).testBit y = true := by cases hh : (f x).testBit y with
      | true => rfl
      | false => exact absurd hh hbit
    have hp := (w9 x y (by omega) (by omega)).mp hbit
    exact s_twinsM w2 w3 w4 w5 hx hy hxy (fun _ => kq rfl (hK _ h)) (fun z => absurd hp z) (fun z => absurd hp z)
end TWINS
