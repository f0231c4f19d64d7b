/-! name -/
/-- k letters of b written as the name n -/
def lwr (b : Nat → Int32) (n : Nat) (l : Nat → Int32) : Nat → (Nat → Int32)
  | 0 => l
  | k + 1 => upd (lwr b n l k) (12 * n + k) (b k - 97)
theorem lwr_ne {b l : Nat → Int32} {n j : Nat} : ∀ {k}, k ≤ 12 → (j < 12 * n ∨ 12 * n + k ≤ j) → lwr b n l k j = l j
  | 0, _, _ => rfl
  | k + 1, hk, h => by
    unfold lwr upd
    rw [if_neg (by omega), lwr_ne (by omega) (by omega)]
theorem lwr_small {b l : Nat → Int32} {n : Nat} (hl : ∀ j, ∃ v, v < 26 ∧ l j = nI v) : ∀ {k}, (∀ j, j < k → isL (b j)) → ∀ j, ∃ v, v < 26 ∧ lwr b n l k j = nI v
  | 0, _ => hl
  | k + 1, h => by
    refine all_upd (P := fun z => ∃ v, v < 26 ∧ z = nI v) (lwr_small hl (fun j hj => h j (by omega))) ?_
    obtain ⟨v, h1, h2, e⟩ := in_rng (a := 97) (b := 122) (by omega) (by omega) (h k (by omega))
    refine ⟨v - 97, by omega, ?_⟩
    rw [e, show (97 : Int32) = nI 97 from rfl, pk_sub h1]
theorem wsumN_congrL {w l l' : Nat → Int32} {f j : Nat} : ∀ k, (∀ i, i < k → l (12 * j + i) = l' (12 * j + i)) → wsumN w l f j k = wsumN w l' f j k
  | 0, _ => rfl
  | k + 1, h => by
    unfold wsumN
    rw [wsumN_congrL k (fun i hi => h i (by omega)), h k (by omega)]
section NAME
variable {X : XT} {Y : YT} {Q : Int32 → XT → YT → Prop} {QV : XT → YT → Prop} {K : XT → YT → Prop} {t N : Nat}
/-- the class's cells behind a new name -/
def nmC (X : XT) (N t : Nat) : XT :=
  let S := setc (sX (sX X 3 9 (nI (N + 1))) 6 N (nI t)) 5 (lwr (X 2) N (X 5) t)
  let S0 := sX S 7 (10 * 0 + N) (wsum (S 4) (S 5) (S 6) 0 N)
  let S1 := sX S0 7 (10 * 1 + N) (wsum (S0 4) (S0 5) (S0 6) 1 N)
  sX (sX (sX (sX S1 8 N 15) 9 N 0) 10 N 99) 11 N 1
theorem s_add (ht : t ≤ 12) (h0 : 0 < t) (h : X 1 1 = nI t) (hr : eow (X 2) t 0 = t) (hN : N < 10) (hn : X 3 9 = nI N) (hl : ∀ i, ∃ v, v < 26 ∧ X 5 i = nI v) (hs : ∀ i, ∃ v, v ≤ 12 ∧ X 6 i = nI v) (hq : QV (nmC X N t) Y) : PX1_add X Y QV := by
  have hall : ∀ k, k < t → isL (X 2 k) := by
    have := (eow_all (X 2) t 0).mp (by omega)
    intro k hk
    have h2 := this k hk
    rw [Nat.zero_add] at h2
    exact h2
  intro I53 I88 h53 h88
  unfold BX1_add_s
  rw [hn, show (10 : Int32) = nI 10 from rfl, le_nI (by omega) (by omega)]
  refine ⟨fun g => absurd g (by omega), fun _ => s_isRow (by omega) h ?_⟩
  rw [bI_t ⟨h0, hr⟩]
  refine ⟨fun g => absurd g (by decide), fun _ => ?_⟩
  rw [h, show (12 : Int32) = nI 12 from rfl, le_nI (by omega) (by omega)]
  refine ⟨fun _ w hw => ?_, fun g => absurd ht g⟩
  rw [hn] at hw
  subst hw
  refine ⟨vp_in_nI (by omega) (by omega), fun X1 hX1 => ?_⟩
  rw [hn, nI_1, cl_nI (by omega), sX_ne (show (1 : Nat) ≠ 3 by decide), h] at hX1
  have key : ∀ d k, k + d = t → I53 (nI N) (nI k) (setc X1 5 (lwr (X 2) N (X 5) k)) Y := by
    have h11 : ∀ k, setc X1 5 (lwr (X 2) N (X 5) k) 1 1 = nI t := fun k => by rw [setc_ne (by decide), hX1, sX_ne (by decide), sX_ne (by decide), h]
    have h2 : ∀ k, setc X1 5 (lwr (X 2) N (X 5) k) 2 = X 2 := fun k => by rw [setc_ne (by decide), hX1, sX_ne (by decide), sX_ne (by decide)]
    intro d
    induction d with
    | zero =>
      intro k hk
      have hk : k = t := by omega
      subst hk
      apply h53
      unfold BX1_add_53
      rw [h11, le_nI (by omega) (by omega)]
      refine ⟨fun _ => ?_, fun g => absurd (by omega) g⟩
      have h5s : ∀ i, ∃ v, v < 26 ∧ lwr (X 2) N (X 5) k i = nI v := lwr_small hl hall
      have h6s : ∀ i, ∃ v, v ≤ 12 ∧ upd (X 6) N (nI k) i = nI v := all_upd (P := fun z => ∃ v, v ≤ 12 ∧ z = nI v) hs ⟨k, ht, rfl⟩
      apply h88
      unfold BX1_add_88
      refine ⟨fun g => absurd g (by decide), fun _ => ?_⟩
      rw [show (0 : Int32) = nI 0 from rfl]
      refine s_measure hN (by omega) ?_ ?_ (fun w hw => ?_)
      · rw [setc_eq]
        exact h5s
      · rw [setc_ne (by decide), hX1, sX_eq, sX_ne (by decide)]
        exact h6s
      rw [hw, nI_1]
      apply h88
      unfold BX1_add_88
      refine ⟨fun g => absurd g (by decide), fun _ => ?_⟩
      refine s_measure hN (by omega) ?_ ?_ (fun w hw => ?_)
      · rw [sX_ne (by decide), setc_eq]
        exact h5s
      · rw [sX_ne (by decide), setc_ne (by decide), hX1, sX_eq, sX_ne (by decide)]
        exact h6s
      rw [hw, nI_1]
      apply h88
      unfold BX1_add_88
      refine ⟨fun _ => ?_, fun g => absurd (by decide) g⟩
      rw [eq_allBelow, show ((1 : Int32) <<< ((4 : Int32) &&& 31)) - 1 = 15 by decide, cl_nI (by omega)]
      refine ⟨vp_in_nI (by omega) (by omega), vp_in_nI (by omega) (by omega), fun X6 e6 => ⟨vp_in_nI (by omega) (by omega), vp_in_nI (by omega) (by omega), fun X8 e8 => ?_⟩⟩
      rw [e8, e6, hX1]
      exact hq
    | succ d ih =>
      intro k hk
      apply h53
      unfold BX1_add_53
      rw [h11, le_nI (by omega) (by omega)]
      refine ⟨fun g => absurd g (by omega), fun _ => ?_⟩
      rw [eq_at (t := t) (by omega) (by omega) (h11 k), if_pos (by omega), h2, mul12, cl_nI (by omega)]
      refine ⟨vp_in_nI (by omega) (by omega), fun X6 e6 w hw => ?_⟩
      rw [hw, nI_1, e6]
      have e : sX (setc X1 5 (lwr (X 2) N (X 5) k)) 5 (12 * N + k) (X 2 k - 97) = setc X1 5 (lwr (X 2) N (X 5) (k + 1)) := by
        funext a
        by_cases ha : a = 5
        · subst ha
          rw [sX_eq, setc_eq, setc_eq, lwr]
        · rw [sX_ne ha, setc_ne ha, setc_ne ha]
      rw [e]
      exact ih (k + 1) (by omega)
  have := key t 0 (by omega)
  have e : X1 = setc X1 5 (lwr (X 2) N (X 5) 0) := by
    funext a
    by_cases ha : a = 5
    · subst ha
      rw [setc_eq, hX1, sX_ne (by decide), sX_ne (by decide), lwr]
    · rw [setc_ne ha]
  rw [← e] at this
  exact this
theorem s_nameC (ht : t ≤ 120) (h : X 1 1 = nI t) (hN : N ≤ 10) (hn : X 3 9 = nI N) (hl : ∀ i, ∃ v, v < 26 ∧ X 5 i = nI v) (hs : ∀ i, ∃ v, v ≤ 12 ∧ X 6 i = nI v)
    (q1 : ¬ (1 ≤ t ∧ t ≤ 12 ∧ eow (X 2) t 0 = t) → Q (-1002) (sX X 1 1 0) Y)
    (q2 : (1 ≤ t ∧ t ≤ 12 ∧ eow (X 2) t 0 = t) → ¬ fst (isN (X 5) (X 6) (X 2) 0 t) N 0 = -1 → Q (-1003) (sX X 1 1 0) Y)
    (q3 : (1 ≤ t ∧ t ≤ 12 ∧ eow (X 2) t 0 = t) → fst (isN (X 5) (X 6) (X 2) 0 t) N 0 = -1 → N = 10 → Q (-1004) X Y)
    (q4 : (1 ≤ t ∧ t ≤ 12 ∧ eow (X 2) t 0 = t) → fst (isN (X 5) (X 6) (X 2) 0 t) N 0 = -1 → N < 10 → Q (nI N) (sX (nmC X N t) 1 1 0) Y) : PX9_name X Y Q := by
  unfold PX9_name BX9_name_s PX9_addName BX9_addName_s
  refine s_isRow ht h ?_
  rw [bI_0]
  by_cases hr : 0 < t ∧ eow (X 2) t 0 = t
  · refine ⟨fun g => absurd hr g, fun _ => ?_⟩
    rw [h, show (12 : Int32) = nI 12 from rfl, le_nI (by omega) (by omega)]
    refine ⟨fun g => ?_, fun g => ?_⟩
    · have hc : 1 ≤ t ∧ t ≤ 12 ∧ eow (X 2) t 0 = t := ⟨hr.1, g, hr.2⟩
      refine s_find (i := 0) (e := t) (N := N) ht h hN hn hs (by omega) (by omega) ?_
      rw [Nat.sub_zero]
      refine ⟨fun g2 => ?_, fun g2 => ⟨fun g3 => absurd g3 (by decide), fun _ => q2 hc g2⟩⟩
      rw [hn, i_lt, show (10 : Int32) = nI 10 from rfl, le_nI (by omega) (by omega)]
      refine ⟨fun g3 => ?_, fun g3 => ⟨fun _ => q3 hc g2 (by omega), fun g4 => absurd rfl g4⟩⟩
      refine s_add (N := N) g hr.1 h hr.2 (by omega) hn hl hs ?_
      have e : nmC X N t 3 9 = nI (N + 1) := rfl
      rw [e, nI_pred]
      refine ⟨fun g4 => absurd g4 ?_, fun _ => q4 hc g2 (by omega)⟩
      intro g5
      have h0 := nI_pos (n := N) (by omega)
      rw [g5] at h0
      exact h0 (by decide)
    · exact ⟨fun g3 => absurd g3 (by decide), fun _ => q1 (fun z => g z.2.1)⟩
  · exact ⟨fun _ => ⟨fun g3 => absurd g3 (by decide), fun _ => q1 (fun z => hr ⟨z.1, z.2.2⟩)⟩, fun g => absurd hr g⟩
/-- the reference's cells behind a new name -/
def nmM (X : XT) (N t : Nat) : XT := sX (sX (sX (sX (sX (sX (sX (sX (setc X 50 (lwr (X 57) N (X 50) t)) 51 N (nI t)) 52 N 15) 53 N 0) 54 N 99) 55 N 1) 56 N 0) 48 12 0) 48 1 (nI (N + 1))
theorem s_nameM (ht : t ≤ 120) (h : X 48 12 = nI t) (hN : N ≤ 10) (hn : X 48 1 = nI N) (hs : ∀ i, ∃ v, v ≤ 12 ∧ X 51 i = nI v)
    (q1 : ¬ (1 ≤ t ∧ t ≤ 12 ∧ eow (X 57) t 0 = t) → Q (-1002) (sX X 48 12 0) Y)
    (q2 : (1 ≤ t ∧ t ≤ 12 ∧ eow (X 57) t 0 = t) → ¬ fst (isN (X 50) (X 51) (X 57) 0 t) N 0 = -1 → Q (-1003) (sX X 48 12 0) Y)
    (q3 : (1 ≤ t ∧ t ≤ 12 ∧ eow (X 57) t 0 = t) → fst (isN (X 50) (X 51) (X 57) 0 t) N 0 = -1 → N = 10 → Q (-1004) X Y)
    (q4 : (1 ≤ t ∧ t ≤ 12 ∧ eow (X 57) t 0 = t) → fst (isN (X 50) (X 51) (X 57) 0 t) N 0 = -1 → N < 10 → Q (nI N) (nmM X N t) Y) : PX10_name X Y Q := by
  intro I15 I50 I100 h15 h50 h100
  unfold BX10_name_s
  have bad : ¬ (1 ≤ t ∧ t ≤ 12 ∧ eow (X 57) t 0 = t) → I50 0 X Y := by
    intro g
    apply h50
    unfold BX10_name_50
    exact ⟨fun _ => ⟨fun _ => q1 g, fun g2 => absurd rfl g2⟩, fun g2 => absurd rfl g2⟩
  have bad15 : ∀ k, ¬ (1 ≤ t ∧ t ≤ 12 ∧ eow (X 57) t 0 = t) → I15 0 k X Y := by
    intro k g
    apply h15
    unfold BX10_name_15
    exact ⟨fun _ => bad g, fun _ => ⟨fun _ => bad g, fun g2 => absurd rfl g2⟩⟩
  have good : (1 ≤ t ∧ t ≤ 12 ∧ eow (X 57) t 0 = t) → I50 1 X Y := by
    intro hc
    apply h50
    unfold BX10_name_50
    refine ⟨fun g => absurd g (by decide), fun _ => ?_⟩
    rw [h, show (0 : Int32) = nI 0 from rfl]
    refine s_nameAt (N := N) hN hn hs (by omega) ?_
    by_cases hf : fst (isN (X 50) (X 51) (X 57) 0 t) N 0 = -1
    · rw [hf]
      refine ⟨fun _ => ?_, fun g => absurd (by decide) g⟩
      rw [hn, show (10 : Int32) = nI 10 from rfl, eq_nI (by omega) (by omega)]
      refine ⟨fun g => ?_, fun g => q3 hc hf g⟩
      have key : ∀ d k, k + d = t → I100 (nI k) (setc X 50 (lwr (X 57) N (X 50) k)) Y := by
        have e12 : ∀ k, setc X 50 (lwr (X 57) N (X 50) k) 48 12 = nI t := fun k => by rw [setc_ne (by decide), h]
        have e1 : ∀ k, setc X 50 (lwr (X 57) N (X 50) k) 48 1 = nI N := fun k => by rw [setc_ne (by decide), hn]
        intro d
        induction d with
        | zero =>
          intro k hk
          have hk : k = t := by omega
          subst hk
          apply h100
          unfold BX10_name_100
          rw [e12, le_nI (by omega) (by omega)]
          refine ⟨fun _ => ?_, fun g => absurd (by omega) g⟩
          rw [sX_ne (show (48 : Nat) ≠ 51 by decide), e1, cl_nI (by omega)]
          refine ⟨vp_in_nI (by omega) (by omega), vp_in_nI (by omega) (by omega), fun X2 hX2 => ?_⟩
          have e2 : X2 48 1 = nI N := by rw [hX2, sX_ne (by decide), sX_ne (by decide), e1]
          rw [sX_ne (show (48 : Nat) ≠ 53 by decide), e2, cl_nI (by omega)]
          refine ⟨vp_in_nI (by omega) (by omega), vp_in_nI (by omega) (by omega), fun X4 hX4 => ?_⟩
          have e4 : X4 48 1 = nI N := by rw [hX4, sX_ne (by decide), sX_ne (by decide), e2]
          rw [sX_ne (show (48 : Nat) ≠ 55 by decide), e4, cl_nI (by omega)]
          refine ⟨vp_in_nI (by omega) (by omega), vp_in_nI (by omega) (by omega), fun X6 hX6 X8 hX8 => ?_⟩
          have e6 : X6 48 1 = nI N := by rw [hX6, sX_ne (by decide), sX_ne (by decide), e4]
          have e8 : sX X6 48 12 0 48 1 = nI N := by rw [sX_eq]; simp [upd, e6]
          rw [e8, nI_1] at hX8
          have e9 : X8 48 1 = nI (N + 1) := by rw [hX8, sX_eq]; simp [upd]
          rw [e9, nI_pred, hX8, hX6, hX4, hX2]
          exact q4 hc hf (by omega)
        | succ d ih =>
          intro k hk
          apply h100
          unfold BX10_name_100
          rw [e12, le_nI (by omega) (by omega)]
          refine ⟨fun g => absurd g (by omega), fun _ => ?_⟩
          rw [e1, mul12', cl_nI (show k < 2147483648 by omega), cl_nI (show 12 * N + k < 2147483648 by omega), setc_ne (show (57 : Nat) ≠ 50 by decide)]
          refine ⟨vp_in_nI (by omega) (by omega), vp_in_nI (by omega) (by omega), fun X10 hX10 w hw => ?_⟩
          have e : X10 = setc X 50 (lwr (X 57) N (X 50) (k + 1)) := by
            rw [hX10]
            funext a
            by_cases ha : a = 50
            · subst ha
              rw [sX_eq, setc_eq, setc_eq, lwr]
            · rw [sX_ne ha, setc_ne ha, setc_ne ha]
          rw [hw, nI_1, e]
          exact ih (k + 1) (by omega)
      have := key t 0 (by omega)
      have e : X = setc X 50 (lwr (X 57) N (X 50) 0) := by
        funext a
        by_cases ha : a = 50
        · subst ha
          rw [setc_eq, lwr]
        · rw [setc_ne ha]
      rw [← e] at this
      exact this
    · refine ⟨fun g => absurd g ?_, fun _ => ⟨fun g => absurd g (by decide), fun _ => q2 hc hf⟩⟩
      rcases fst_or (isN (X 50) (X 51) (X 57) 0 t) N 0 with g2 | ⟨j, _, hj, _, g2⟩
      · exact absurd g2 hf
      · rw [g2]
        exact nI_pos (by omega)
  rw [l64_1, l64_12, h, eq_in3]
  by_cases hc : (1 : Int32) ≤ nI t ∧ nI t ≤ 12
  · rw [bI_t hc]
    have hc' := hc
    rw [show (1 : Int32) = nI 1 from rfl, show (12 : Int32) = nI 12 from rfl, le_nI (by omega) (by omega), le_nI (by omega) (by omega)] at hc'
    have key : ∀ d k, k + d = t → (∀ j, j < k → isL (X 57 j)) → I15 1 (nI k) X Y := by
      intro d
      induction d with
      | zero =>
        intro k hk hall
        apply h15
        unfold BX10_name_15
        rw [h, le_nI (by omega) (by omega)]
        refine ⟨fun _ => good ⟨hc'.1, hc'.2, ?_⟩, fun g => absurd (by omega) g⟩
        have := (eow_all (X 57) t 0).mpr (fun k' hk' => by rw [Nat.zero_add]; exact hall k' (by omega))
        omega
      | succ d ih =>
        intro k hk hall
        apply h15
        unfold BX10_name_15
        rw [h, le_nI (by omega) (by omega)]
        refine ⟨fun g => absurd g (by omega), fun _ => ⟨fun g => absurd g (by decide), fun _ => ⟨vp_in_nI (by omega) (by omega), ?_⟩⟩⟩
        rw [l64_97, l64_122, eq_in3, cl_nI (by omega)]
        intro w hw
        rw [hw, nI_1]
        by_cases hl : (97 : Int32) ≤ X 57 k ∧ X 57 k ≤ 122
        · rw [bI_t hl]
          refine ih (k + 1) (by omega) (fun j hj => ?_)
          by_cases hjk : j = k
          · subst hjk
            exact hl
          · exact hall j (by omega)
        · rw [bI_f hl]
          refine bad15 _ (fun z => hl ?_)
          have := (eow_all (X 57) t 0).mp (by omega) k (by omega)
          rw [Nat.zero_add] at this
          exact this
    exact key t 0 (by omega) (fun j hj => absurd hj (by omega))
  · rw [bI_f hc]
    refine bad15 _ (fun z => hc ?_)
    rw [show (1 : Int32) = nI 1 from rfl, show (12 : Int32) = nI 12 from rfl, le_nI (by omega) (by omega), le_nI (by omega) (by omega)]
    exact ⟨z.1, z.2.1⟩
theorem two_pow_succ_lt {m N : Nat} (h : m < 2 ^ N) : m < 2 ^ (N + 1) := by
  rw [Nat.pow_succ]
  omega
theorem inv_name (h : Inv X) (hc : 1 ≤ t ∧ t ≤ 12 ∧ eow (X 2) t 0 = t) (hn : X 48 1 = nI N) (hN : N < 10) : Inv (nmM (sX (nmC X N t) 1 1 0) N t) := by
  obtain ⟨hS, hk, hF, hT, hNn, hA, hV, hP, hW, hR⟩ := id h
  obtain ⟨t1, t2, ⟨t', t3, t4⟩, t5⟩ := id hT
  have hall : ∀ k, k < t → isL (X 2 k) := by
    have := (eow_all (X 2) t 0).mp (by omega)
    intro k hk
    have h2 := this k hk
    rw [Nat.zero_add] at h2
    exact h2
  obtain ⟨n1, n2, n3, n4, N', n5, n6, n7, n8, n9, n10, n11⟩ := id hNn
  have hNN : N' = N := by
    have e := n6.symm.trans hn
    rw [eq_nI (by omega) (by omega)] at e
    exact e
  subst hNN
  refine ⟨hS, ?_, hF, ?_, ?_, ?_, ?_, ?_, hW, ?_⟩
  · obtain ⟨k1, M, m, k2, k3, k4, k5⟩ := hk
    have e := k3.symm.trans hn
    rw [eq_nI (by omega) (by omega)] at e
    subst e
    exact ⟨k1, M + 1, m, by omega, rfl, two_pow_succ_lt k4, k5⟩
  · exact ⟨rfl, t2, ⟨0, by omega, rfl⟩, t5⟩
  · have e5 : nmM (sX (nmC X N' t) 1 1 0) N' t 5 = lwr (X 2) N' (X 5) t := rfl
    have e50 : nmM (sX (nmC X N' t) 1 1 0) N' t 50 = lwr (X 57) N' (X 50) t := rfl
    have e6 : nmM (sX (nmC X N' t) 1 1 0) N' t 6 = upd (X 6) N' (nI t) := rfl
    have e51 : nmM (sX (nmC X N' t) 1 1 0) N' t 51 = upd (X 51) N' (nI t) := rfl
    have e4 : nmM (sX (nmC X N' t) 1 1 0) N' t 4 = X 4 := rfl
    have e49 : nmM (sX (nmC X N' t) 1 1 0) N' t 49 = X 49 := rfl
    have e7 : nmM (sX (nmC X N' t) 1 1 0) N' t 7 = upd (upd (X 7) (10 * 0 + N') (wsum (X 4) (lwr (X 2) N' (X 5) t) (upd (X 6) N' (nI t)) 0 N')) (10 * 1 + N') (wsum (X 4) (lwr (X 2) N' (X 5) t) (upd (X 6) N' (nI t)) 1 N') := rfl
    rw [e5, e50, e6, e51, e4, e49, e7]
    refine ⟨rfl, n2, by rw [t2, n3], by rw [n4], N' + 1, by omega, rfl, n7, lwr_small n8 (fun j hj => by rw [← t2]; exact hall j hj), all_upd (P := fun z => ∃ v, v ≤ 12 ∧ z = nI v) n9 ⟨t, hc.2.1, rfl⟩, ?_, ?_⟩
    · intro j hj
      unfold upd
      by_cases hjn : j = N'
      · rw [if_pos hjn]
        exact ⟨t, hc.1, hc.2.1, rfl⟩
      · rw [if_neg hjn]
        exact n10 j (by omega)
    · intro f j hf hj
      by_cases hjn : j = N'
      · subst hjn
        rcases (show f = 0 ∨ f = 1 by omega) with rfl | rfl
        · unfold upd
          rw [if_neg (by omega), if_pos rfl, n2, n3, n4, t2]
        · unfold upd
          rw [if_pos rfl, n2, n3, n4, t2]
      · have e : upd (upd (X 7) (10 * 0 + N') (wsum (X 4) (lwr (X 2) N' (X 5) t) (upd (X 6) N' (nI t)) 0 N')) (10 * 1 + N') (wsum (X 4) (lwr (X 2) N' (X 5) t) (upd (X 6) N' (nI t)) 1 N') (10 * f + j) = X 7 (10 * f + j) := by
          unfold upd
          rw [if_neg (by omega), if_neg (by omega)]
        rw [e, n11 f j hf (by omega)]
        obtain ⟨v, hv1, hv, hsv⟩ := n10 j (by omega)
        have es : upd (X 51) N' (nI t) j = X 51 j := by
          unfold upd
          rw [if_neg hjn]
        unfold wsum
        rw [es, hsv, cl_nI (by omega)]
        exact wsumN_congrL v (fun i hi => (lwr_ne hc.2.1 (by omega)).symm)
  · obtain ⟨g1, g2, g3, g4, g5, g6, g7, g8, M, g9, g10, g11⟩ := hA
    have e := g10.symm.trans hn
    rw [eq_nI (by omega) (by omega)] at e
    subst e
    refine ⟨?_, ?_, ?_, ?_, all_upd (P := fun z => ∃ v, v < 16 ∧ z = nI v) g5 ⟨15, by omega, rfl⟩, all_upd (P := fun z => ∃ v, v < 100 ∧ z = nI v) g6 ⟨0, by omega, rfl⟩, all_upd (P := fun z => ∃ v, v < 100 ∧ z = nI v) g7 ⟨99, by omega, rfl⟩, all_upd (P := fun z => ∃ v, v ≤ 9 ∧ z = nI v) g8 ⟨1, by omega, rfl⟩, M + 1, by omega, rfl, ?_⟩
    · show upd (X 8) _ _ = upd (X 52) _ _
      rw [g1]
    · show upd (X 9) _ _ = upd (X 53) _ _
      rw [g2]
    · show upd (X 10) _ _ = upd (X 54) _ _
      rw [g3]
    · show upd (X 11) _ _ = upd (X 55) _ _
      rw [g4]
    · intro j hj
      show ∃ v, 1 ≤ v ∧ v ≤ 9 ∧ upd (X 55) M 1 j = nI v
      unfold upd
      by_cases hjn : j = M
      · rw [if_pos hjn]
        exact ⟨1, by omega, by omega, rfl⟩
      · rw [if_neg hjn]
        exact g11 j (by omega)
  · obtain ⟨v1, M, v2, v3, f, v4, v5, v6⟩ := hV
    have e := v3.symm.trans hn
    rw [eq_nI (by omega) (by omega)] at e
    subst e
    have hfM : f M = 0 := by
      apply Nat.eq_of_testBit_eq
      intro j
      rw [v6 M j, Nat.zero_testBit]
      exact Nat.testBit_lt_two_pow (v5 j)
    have e56 : nmM (sX (nmC X M t) 1 1 0) M t 56 = X 56 := by
      show upd (X 56) M 0 = X 56
      have : X 56 M = 0 := by rw [v4 M, hfM]; rfl
      rw [← this, upd_same]
    rw [e56]
    exact ⟨v1, M + 1, by omega, rfl, f, v4, fun j => two_pow_succ_lt (v5 j), v6⟩
  · obtain ⟨p1, p2, p3, p4, p5, p6, p7, p8, p9, p10, p11, M, P, KK, B, m1, m2, m3, m4, m5, m6, m7, m8, m9, m10, m11, m12, m13, m14, m15, m16, m17⟩ := hP
    have e := m2.symm.trans hn
    rw [eq_nI (by omega) (by omega)] at e
    subst e
    exact ⟨p1, p2, p3, p4, p5, p6, p7, p8, p9, p10, p11, M + 1, P, KK, B, by omega, rfl, m3, m4, m5, m6, m7, m8, m9, m10, m11, m12, m13, m14, m15, fun j hj => (m16 j hj).imp id (fun ⟨v, hv, e⟩ => ⟨v, by omega, e⟩), m17⟩
  · obtain ⟨r1, r2, M, r3, r4, r5, r6⟩ := hR
    have e := r4.symm.trans hn
    rw [eq_nI (by omega) (by omega)] at e
    subst e
    exact ⟨r1, r2, M + 1, by omega, rfl, fun j => by obtain ⟨m, hm, e⟩ := r5 j; exact ⟨m, two_pow_succ_lt hm, e⟩, fun j hj => (r6 j hj).imp id (fun ⟨v, hv, e⟩ => ⟨v, by omega, e⟩)⟩
theorem inv_text0 (h : Inv X) : Inv (sX (sX X 1 1 0) 48 12 0) := by
  obtain ⟨hS, hk, hF, hT, hN, hA, hV, hP, hW, hR⟩ := id h
  exact ⟨hS, hk, hF, ⟨rfl, hT.2.1, ⟨0, by omega, rfl⟩, hT.2.2.2⟩, hN, hA, hV, hP, hW, hR⟩
theorem pr_name (h : Inv X) (hK : ∀ X2, Inv X2 → K X2 Y) : PX9_name X Y (fun r X1 Y1 => PX10_name X1 Y1 (Kq K r)) := by
  obtain ⟨hS, hk, hF, hT, hN, hA, hV, hP, hW, hR⟩ := id h
  obtain ⟨t1, t2, ⟨t, t3, t4⟩, t5⟩ := id hT
  obtain ⟨n1, n2, n3, n4, N, n5, n6, n7, n8, n9, n10, n11⟩ := id hN
  have ef : fst (isN (X 5) (X 6) (X 2) 0 t) N 0 = fst (isN (X 50) (X 51) (X 57) 0 t) N 0 := by rw [t2, n3, n4]
  refine s_nameC (t := t) (N := N) t3 (t1.trans t4) n5 (n1.trans n6) (by rw [n3]; exact n8) (by rw [n4]; exact n9) (fun g => ?_) (fun g g2 => ?_) (fun g g2 g3 => ?_) (fun g g2 g3 => ?_)
  · have g' : ¬ (1 ≤ t ∧ t ≤ 12 ∧ eow (X 57) t 0 = t) := by rw [← t2]; exact g
    exact s_nameM (t := t) (N := N) t3 t4 n5 n6 n9 (fun _ => kq rfl (hK _ (inv_text0 h))) (fun z => absurd z g') (fun z => absurd z g') (fun z => absurd z g')
  · have g' : (1 ≤ t ∧ t ≤ 12 ∧ eow (X 57) t 0 = t) := by rw [← t2]; exact g
    rw [ef] at g2
    exact s_nameM (t := t) (N := N) t3 t4 n5 n6 n9 (fun z => absurd g' z) (fun _ _ => kq rfl (hK _ (inv_text0 h))) (fun _ z => absurd z g2) (fun _ z => absurd z g2)
  · have g' : (1 ≤ t ∧ t ≤ 12 ∧ eow (X 57) t 0 = t) := by rw [← t2]; exact g
    rw [ef] at g2
    exact s_nameM (t := t) (N := N) t3 t4 n5 n6 n9 (fun z => absurd g' z) (fun _ z => absurd g2 z) (fun _ _ _ => kq rfl (hK _ h)) (fun _ _ z => absurd g3 (by omega))
  · have g' : (1 ≤ t ∧ t ≤ 12 ∧ eow (X 57) t 0 = t) := by rw [← t2]; exact g
    rw [ef] at g2
    exact s_nameM (t := t) (N := N) t3 t4 n5 n6 n9 (fun z => absurd g' z) (fun _ z => absurd g2 z) (fun _ _ z => absurd z (by omega)) (fun _ _ _ => kq rfl (hK _ (inv_name h g n6 g3)))
end NAME
