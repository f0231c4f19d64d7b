/-! wide, feed, name -/
def setc (X : XT) (q : Nat) (f : Nat → Int32) : XT := fun a => if a = q then f else X a
theorem setc_eq {X : XT} {q : Nat} {f : Nat → Int32} : setc X q f q = f := by simp [setc]
theorem setc_ne {X : XT} {q a : Nat} {f : Nat → Int32} (h : a ≠ q) : setc X q f a = X a := by simp [setc, h]
theorem upd_same (f : Nat → Int32) (k : Nat) : upd f k (f k) = f := by
  funext j
  unfold upd
  split
  · next h => rw [h]
  · rfl
theorem upd_upd (f : Nat → Int32) (k : Nat) (x y : Int32) : upd (upd f k x) k y = upd f k y := by
  funext j
  unfold upd
  split <;> rfl
section WIDE
variable {X : XT} {Y : YT} {Q : Int32 → XT → YT → Prop} {QV : XT → YT → Prop} {K : XT → YT → Prop} {a b c : Int32}
theorem s_measure {j f : Nat} (hj : j < 10) (hf : f < 2) (hl : ∀ i, ∃ v, v < 26 ∧ X 5 i = nI v) (hs : ∀ i, ∃ v, v ≤ 12 ∧ X 6 i = nI v) (hq : QV (sX X 7 (10 * f + j) (wsum (X 4) (X 5) (X 6) f j)) Y) : PX1_measureName (nI j) (nI f) X Y QV := by
  intro I5 h5
  unfold BX1_measureName_s
  obtain ⟨m, hm, hsm⟩ := hs j
  have hw : wsum (X 4) (X 5) (X 6) f j = wsumN (X 4) (X 5) f j m := by unfold wsum; rw [hsm, cl_nI (by omega)]
  have key : ∀ d k, k + d = m → I5 (nI j) (nI f) (wsumN (X 4) (X 5) f j k) (nI k) X Y := by
    intro d
    induction d with
    | zero =>
      intro k hk
      have hk : k = m := by omega
      subst hk
      apply h5
      unfold BX1_measureName_5
      rw [cl_nI (show j < 2147483648 by omega), hsm, le_nI (by omega) (by omega), mul10, cl_nI (by omega)]
      refine ⟨vp_in_nI hj (by omega), fun _ => ⟨vp_in_nI (by omega) (by omega), ?_⟩, fun g => absurd (by omega) g⟩
      rw [hw] at hq
      exact hq
    | succ d ih =>
      intro k hk
      apply h5
      unfold BX1_measureName_5
      rw [cl_nI (show j < 2147483648 by omega), hsm, le_nI (by omega) (by omega), mul12, cl_nI (show 12 * j + k < 2147483648 by omega)]
      obtain ⟨v, hv, hlv⟩ := hl (12 * j + k)
      refine ⟨vp_in_nI hj (by omega), fun g => absurd g (by omega), fun _ => ⟨vp_in_nI (by omega) (by omega), ?_⟩⟩
      rw [hlv, mul26, cl_nI (by omega)]
      refine ⟨vp_in_nI (by omega) (by omega), fun w2 hw2 w4 hw4 => ?_⟩
      rw [hw4, nI_1]
      have e : w2 = wsumN (X 4) (X 5) f j (k + 1) := by rw [hw2, wsumN, hlv, cl_nI (by omega)]
      rw [e]
      exact ih (k + 1) (by omega)
  exact key m 0 (by omega)
/-- the widths of the first n names in the fount f, measured again -/
def wfill (X : XT) (f : Nat) : Nat → XT
  | 0 => X
  | n + 1 => sX (wfill X f n) 7 (10 * f + n) (wsum (X 4) (X 5) (X 6) f n)
theorem wfill_ne {f a : Nat} (h : a ≠ 7) : ∀ n, wfill X f n a = X a
  | 0 => rfl
  | n + 1 => by
    unfold wfill
    rw [sX_ne h, wfill_ne h n]
theorem wfill_7 {f g j : Nat} (hj : j < 10) (hg : g < 2) (hf : f < 2) : ∀ n, n ≤ 10 → wfill X f n 7 (10 * g + j) = if g = f ∧ j < n then wsum (X 4) (X 5) (X 6) f j else X 7 (10 * g + j)
  | 0, _ => by rw [if_neg (by omega)]; rfl
  | n + 1, hn => by
    unfold wfill
    rw [sX_eq]
    unfold upd
    rw [wfill_7 hj hg hf n (by omega)]
    by_cases h1 : 10 * g + j = 10 * f + n
    · have h2 : g = f ∧ j = n := by omega
      rw [if_pos h1, if_pos (by omega), h2.2]
    · rw [if_neg h1]
      by_cases h2 : g = f ∧ j < n
      · rw [if_pos h2, if_pos (by omega)]
      · rw [if_neg h2, if_neg (by omega)]
theorem s_widen {f l N : Nat} (hf : f < 2) (hl : l < 26) (hN : N ≤ 10) (hn : X 3 9 = nI N) (hlt : ∀ i, ∃ v, v < 26 ∧ X 5 i = nI v) (hs : ∀ i, ∃ v, v ≤ 12 ∧ X 6 i = nI v) (hq : Q (X 4 (26 * f + l)) (wfill (sX X 4 (26 * f + l) c) f N) Y) : PX1_widenLetter (nI f) (nI l) c X Y Q := by
  intro I28 h28
  unfold BX1_widenLetter_s
  rw [mul26, cl_nI (by omega)]
  refine ⟨vp_in_nI (by omega) (by omega), fun w hw => ⟨vp_in_nI (by omega) (by omega), ?_⟩⟩
  subst hw
  have key : ∀ d n, n + d = N → I28 (nI f) (X 4 (26 * f + l)) (nI n) (wfill (sX X 4 (26 * f + l) c) f n) Y := by
    intro d
    induction d with
    | zero =>
      intro n hnd
      have hnd : n = N := by omega
      subst hnd
      apply h28
      unfold BX1_widenLetter_28
      rw [wfill_ne (by decide), sX_ne (by decide), hn, le_nI (by omega) (by omega)]
      exact ⟨fun _ => hq, fun g => absurd (by omega) g⟩
    | succ d ih =>
      intro n hnd
      apply h28
      unfold BX1_widenLetter_28
      rw [wfill_ne (by decide), sX_ne (by decide), hn, le_nI (by omega) (by omega)]
      refine ⟨fun g => absurd g (by omega), fun _ => ?_⟩
      refine s_measure (by omega) hf ?_ ?_ (fun w hw => ?_)
      · rw [wfill_ne (by decide), sX_ne (by decide)]
        exact hlt
      · rw [wfill_ne (by decide), sX_ne (by decide)]
        exact hs
      · rw [hw, nI_1]
        have := ih (n + 1) (by omega)
        unfold wfill at this
        rw [wfill_ne (by decide), wfill_ne (by decide), wfill_ne (by decide)]
        exact this
  exact key N 0 (by omega)
theorem wsumN_congr {w w' l : Nat → Int32} {f j : Nat} (hl : ∀ i, ∃ v, v < 26 ∧ l i = nI v) (h : ∀ i, i < 26 → w (26 * f + i) = w' (26 * f + i)) : ∀ k, wsumN w l f j k = wsumN w' l f j k
  | 0 => rfl
  | k + 1 => by
    unfold wsumN
    obtain ⟨v, hv, e⟩ := hl (12 * j + k)
    rw [wsumN_congr hl h k, e, cl_nI (by omega), h v hv]
theorem wsum_congr {w w' l s : Nat → Int32} {f j : Nat} (hl : ∀ i, ∃ v, v < 26 ∧ l i = nI v) (h : ∀ i, i < 26 → w (26 * f + i) = w' (26 * f + i)) : wsum w l s f j = wsum w' l s f j := wsumN_congr hl h _
theorem pr_wide (h : Inv X) (hK : ∀ X2, Inv X2 → K X2 Y) : PX9_wide a b c X Y (fun r X1 Y1 => PX10_wide a b c X1 Y1 (Kq K r)) := by
  obtain ⟨hS, hk, hF, hT, hN, hA, hV, hP, hW, hR⟩ := id h
  unfold PX9_wide BX9_wide_s
  simp only [eq_within, bI_0, Classical.not_not]
  by_cases h1 : 0 ≤ a ∧ a ≤ 1
  · by_cases h2 : 0 ≤ b ∧ b ≤ 25
    · by_cases h3 : 1 ≤ c ∧ c ≤ 20
      · refine ⟨fun g => absurd h1 g, fun _ => ⟨fun g => absurd h2 g, fun _ => ⟨fun _ => ?_, fun g => absurd h3 g⟩⟩⟩
        obtain ⟨f, _, hf, rfl⟩ := in_rng (a := 0) (b := 1) (by omega) (by omega) h1
        obtain ⟨l, _, hl, rfl⟩ := in_rng (a := 0) (b := 25) (by omega) (by omega) h2
        obtain ⟨v, hv1, hv, rfl⟩ := in_rng (a := 1) (b := 20) (by omega) (by omega) h3
        obtain ⟨n1, n2, n3, n4, N, n5, n6, n7, n8, n9, n10, n11⟩ := id hN
        refine s_widen (N := N) (by omega) (by omega) n5 (n1.trans n6) (by rw [n3]; exact n8) (by rw [n4]; exact n9) ?_
        unfold PX10_wide BX10_wide_s
        simp only [l64_0, l64_1, l64_25, l64_20, eq_in3, bI_0, Classical.not_not]
        refine ⟨fun g => absurd h1 g, fun _ => ⟨fun g => absurd h2 g, fun _ => ⟨fun _ => ?_, fun g => absurd h3 g⟩⟩⟩
        rw [mul26', cl_nI (by omega)]
        refine ⟨vp_in_nI (by omega) (by omega), fun w hw => ⟨vp_in_nI (by omega) (by omega), fun X2 hX2 => kq ?_ (hK _ ?_)⟩⟩
        · rw [hw, wfill_ne (by decide), sX_ne (by decide), n2]
        · subst hX2
          have ne : ∀ q, q ≠ 7 → q ≠ 4 → q ≠ 49 → sX (wfill (sX X 4 (26 * f + l) (nI v)) f N) 49 (26 * f + l) (nI v) q = X q := fun q h1 h2 h3 => by rw [sX_ne h3, wfill_ne h1, sX_ne h2]
          have e4 : sX (wfill (sX X 4 (26 * f + l) (nI v)) f N) 49 (26 * f + l) (nI v) 4 = upd (X 4) (26 * f + l) (nI v) := by rw [sX_ne (by decide), wfill_ne (by decide), sX_eq]
          have e49 : sX (wfill (sX X 4 (26 * f + l) (nI v)) f N) 49 (26 * f + l) (nI v) 49 = upd (X 49) (26 * f + l) (nI v) := by rw [sX_eq, wfill_ne (by decide), sX_ne (by decide)]
          have e7 : ∀ g j, g < 2 → j < N → sX (wfill (sX X 4 (26 * f + l) (nI v)) f N) 49 (26 * f + l) (nI v) 7 (10 * g + j) = wsum (upd (X 49) (26 * f + l) (nI v)) (X 50) (X 51) g j := by
            intro g j hg hj
            rw [sX_ne (by decide), wfill_7 (by omega) hg (by omega) N n5, sX_eq, sX_ne (by decide), sX_ne (by decide), sX_ne (by decide)]
            by_cases hgf : g = f
            · rw [if_pos ⟨hgf, hj⟩, n2, n3, n4, hgf]
            · rw [if_neg (fun z => hgf z.1), n11 g j hg hj]
              refine wsum_congr n8 (fun i hi => ?_)
              unfold upd
              rw [if_neg (by omega)]
          unfold Inv
          rw [e4, e49]
          simp only [ne 0 (by decide) (by decide) (by decide), ne 1 (by decide) (by decide) (by decide), ne 2 (by decide) (by decide) (by decide), ne 3 (by decide) (by decide) (by decide), ne 5 (by decide) (by decide) (by decide), ne 6 (by decide) (by decide) (by decide), ne 8 (by decide) (by decide) (by decide), ne 9 (by decide) (by decide) (by decide), ne 10 (by decide) (by decide) (by decide), ne 11 (by decide) (by decide) (by decide), ne 12 (by decide) (by decide) (by decide), ne 13 (by decide) (by decide) (by decide), ne 14 (by decide) (by decide) (by decide), ne 15 (by decide) (by decide) (by decide), ne 16 (by decide) (by decide) (by decide), ne 17 (by decide) (by decide) (by decide), ne 18 (by decide) (by decide) (by decide), ne 19 (by decide) (by decide) (by decide), ne 20 (by decide) (by decide) (by decide), ne 21 (by decide) (by decide) (by decide), ne 22 (by decide) (by decide) (by decide), ne 23 (by decide) (by decide) (by decide), ne 29 (by decide) (by decide) (by decide), ne 30 (by decide) (by decide) (by decide), ne 48 (by decide) (by decide) (by decide), ne 50 (by decide) (by decide) (by decide), ne 51 (by decide) (by decide) (by decide), ne 52 (by decide) (by decide) (by decide), ne 53 (by decide) (by decide) (by decide), ne 54 (by decide) (by decide) (by decide), ne 55 (by decide) (by decide) (by decide), ne 56 (by decide) (by decide) (by decide), ne 57 (by decide) (by decide) (by decide), ne 58 (by decide) (by decide) (by decide), ne 59 (by decide) (by decide) (by decide), ne 60 (by decide) (by decide) (by decide), ne 61 (by decide) (by decide) (by decide), ne 62 (by decide) (by decide) (by decide), ne 63 (by decide) (by decide) (by decide), ne 64 (by decide) (by decide) (by decide), ne 65 (by decide) (by decide) (by decide), ne 66 (by decide) (by decide) (by decide), ne 67 (by decide) (by decide) (by decide), ne 78 (by decide) (by decide) (by decide), ne 79 (by decide) (by decide) (by decide)]
          refine ⟨hS, hk, hF, hT, ⟨n1, by rw [n2], n3, n4, N, n5, n6, lt_upd (P := fun z => ∃ v, 1 ≤ v ∧ v ≤ 20 ∧ z = nI v) n7 ⟨v, hv1, hv, rfl⟩, n8, n9, n10, e7⟩, hA, hV, hP, hW, hR⟩
      · refine ⟨fun g => absurd h1 g, fun _ => ⟨fun g => absurd h2 g, fun _ => ⟨fun g => absurd g h3, fun _ => ?_⟩⟩⟩
        unfold PX10_wide BX10_wide_s
        simp only [l64_0, l64_1, l64_25, l64_20, eq_in3, bI_0, Classical.not_not]
        exact ⟨fun g => absurd h1 g, fun _ => ⟨fun g => absurd h2 g, fun _ => ⟨fun g => absurd g h3, fun _ => kq rfl (hK _ h)⟩⟩⟩
    · refine ⟨fun g => absurd h1 g, fun _ => ⟨fun _ => ?_, fun g => absurd g h2⟩⟩
      unfold PX10_wide BX10_wide_s
      simp only [l64_0, l64_1, l64_25, l64_20, eq_in3, bI_0, Classical.not_not]
      exact ⟨fun g => absurd h1 g, fun _ => ⟨fun _ => kq rfl (hK _ h), fun g => absurd g h2⟩⟩
  · refine ⟨fun _ => ?_, fun g => absurd g h1⟩
    unfold PX10_wide BX10_wide_s
    simp only [l64_0, l64_1, l64_25, l64_20, eq_in3, bI_0, Classical.not_not]
    exact ⟨fun _ => kq rfl (hK _ h), fun g => absurd g h1⟩
end WIDE
