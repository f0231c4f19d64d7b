/-! there, told, away, knows, keep, count, place -/
section CALLS
variable {X : XT} {Y : YT} {Q : Int32 → XT → YT → Prop} {K : XT → YT → Prop} {a b c : Int32}
theorem inv_n (h : Inv X) : ∃ N, N ≤ 10 ∧ X 48 1 = nI N ∧ X 3 9 = nI N := by
  obtain ⟨n1, -, -, -, N, n5, n6, -⟩ := h.2.2.2.2.1
  exact ⟨N, n5, n6, n1.trans n6⟩
theorem pr_there (h : Inv X) (hK : ∀ X2, Inv X2 → K X2 Y) : PX9_there a b c X Y (fun r X1 Y1 => PX10_there a b c X1 Y1 (Kq K r)) := by
  obtain ⟨hS, hk, hF, hT, hN, hA, hV, hP, hW, hR⟩ := id h
  obtain ⟨N, hN10, hn, hn'⟩ := inv_n h
  unfold PX9_there BX9_there_s
  simp only [eq_isKnown, eq_within, bI_0, Classical.not_not, hN.1]
  refine ⟨fun hc => ⟨fun hd => ?_, fun hd => ⟨fun he => ?_, fun he => ?_⟩⟩, fun hc => ?_⟩
  · unfold PX10_there BX10_there_s
    simp only [l64_0, l64_99, eq_noName, eq_in3, bI_0, Classical.not_not]
    exact ⟨fun _ => ⟨fun _ => kq rfl (hK _ h), fun g => absurd g hd⟩, fun g => absurd hc g⟩
  · obtain ⟨j, hj, rfl⟩ := kn_of (N := N) (by omega) (by rw [← hn]; exact hc)
    refine ⟨vp_in_nI (by omega) (by omega), vp_in_nI (by omega) (by omega), fun w hw => ⟨vp_in_nI (by omega) (by omega), vp_in_nI (by omega) (by omega), fun X2 hX2 => ?_⟩⟩
    unfold PX10_there BX10_there_s
    simp only [l64_0, l64_99, eq_noName, eq_in3, bI_0, Classical.not_not]
    have e48 : X2 48 = X 48 := by rw [hX2, sX_ne (by decide), sX_ne (by decide)]
    rw [e48]
    refine ⟨fun _ => ⟨fun g => absurd hd g, fun _ => ⟨fun _ => ⟨vp_in_nI (by omega) (by omega), vp_in_nI (by omega) (by omega), fun w' hw' => ⟨vp_in_nI (by omega) (by omega), vp_in_nI (by omega) (by omega), fun X3 hX3 => kq ?_ (hK _ ?_)⟩⟩, fun g => absurd he g⟩⟩, fun g => absurd hc g⟩
    · rw [hw, hw', hX2, hA.2.1, hA.2.2.1]
      rfl
    · obtain ⟨x, _, hx, rfl⟩ := in_rng (a := 0) (b := 99) (by omega) (by omega) hd
      obtain ⟨y, hy1, hy, rfl⟩ := in_rng (a := x) (b := 99) (by omega) (by omega) he
      subst hX3 hX2
      obtain ⟨g1, g2, g3, g4, g5, g6, g7, g8⟩ := hA
      exact ⟨hS, hk, hF, hT, hN, ⟨g1, by show upd (X 9) _ _ = upd (X 53) _ _; rw [g2], by show upd (X 10) _ _ = upd (X 54) _ _; rw [g3], g4, g5, all_upd (P := fun z => ∃ v, v < 100 ∧ z = nI v) g6 ⟨x, by omega, rfl⟩, all_upd (P := fun z => ∃ v, v < 100 ∧ z = nI v) g7 ⟨y, by omega, rfl⟩, g8⟩, hV, hP, hW, hR⟩
  · unfold PX10_there BX10_there_s
    simp only [l64_0, l64_99, eq_noName, eq_in3, bI_0, Classical.not_not]
    exact ⟨fun _ => ⟨fun g => absurd hd g, fun _ => ⟨fun g => absurd g he, fun _ => kq rfl (hK _ h)⟩⟩, fun g => absurd hc g⟩
  · unfold PX10_there BX10_there_s
    simp only [l64_0, l64_99, eq_noName, eq_in3, bI_0, Classical.not_not]
    exact ⟨fun g => absurd g hc, fun _ => kq rfl (hK _ h)⟩
theorem s_widthM {j f : Nat} (hj : j < 10) (hf : f < 2) (hl : ∀ i, ∃ v, v < 26 ∧ X 50 i = nI v) (hs : ∀ i, ∃ v, v ≤ 12 ∧ X 51 i = nI v) (hq : Q (wsum (X 49) (X 50) (X 51) f j) X Y) : PX10_widthOf (nI j) (nI f) X Y Q := by
  intro I5 h5
  unfold BX10_widthOf_s
  obtain ⟨m, hm, hsm⟩ := hs j
  have hw : wsum (X 49) (X 50) (X 51) f j = wsumN (X 49) (X 50) f j m := by unfold wsum; rw [hsm, cl_nI (by omega)]
  have key : ∀ d k, k + d = m → I5 (nI j) (nI f) (wsumN (X 49) (X 50) f j k) (nI k) X Y := by
    intro d
    induction d with
    | zero =>
      intro k hk
      have hk : k = m := by omega
      subst hk
      apply h5
      unfold BX10_widthOf_5
      rw [cl_nI (show j < 2147483648 by omega), hsm, le_nI (by omega) (by omega)]
      refine ⟨vp_in_nI hj (by omega), fun _ => ?_, fun g => absurd (by omega) g⟩
      rw [hw] at hq
      exact hq
    | succ d ih =>
      intro k hk
      apply h5
      unfold BX10_widthOf_5
      rw [cl_nI (show j < 2147483648 by omega), hsm, le_nI (by omega) (by omega), mul12', cl_nI (show 12 * j + k < 2147483648 by omega)]
      obtain ⟨v, hv, hlv⟩ := hl (12 * j + k)
      refine ⟨vp_in_nI hj (by omega), fun g => absurd g (by omega), fun _ => ⟨vp_in_nI (by omega) (by omega), ?_⟩⟩
      rw [hlv, mul26', cl_nI (by omega)]
      refine ⟨vp_in_nI (by omega) (by omega), fun w2 hw2 w4 hw4 => ?_⟩
      rw [hw4, nI_1]
      have e : w2 = wsumN (X 49) (X 50) f j (k + 1) := by rw [hw2, wsumN, hlv, cl_nI (by omega)]
      rw [e]
      exact ih (k + 1) (by omega)
  exact key m 0 (by omega)
theorem s_widthC {j f : Nat} (hj : j < 10) (hf : f < 2) (hq : Q (X 7 (10 * f + j)) X Y) : PX1_widthOf (nI j) (nI f) X Y Q := by
  unfold PX1_widthOf BX1_widthOf_s
  rw [mul10, cl_nI (by omega)]
  exact ⟨vp_in_nI (by omega) (by omega), hq⟩
theorem pr_width (h : Inv X) {N j f : Nat} (hN : N ≤ 10) (hn : X 48 1 = nI N) (hj : j < N) (hf : f < 2) (hq : Q (wsum (X 49) (X 50) (X 51) f j) X Y) : PX1_widthOf (nI j) (nI f) X Y Q := by
  obtain ⟨n1, n2, n3, n4, N', n5, n6, n7, n8, n9, n10, n11⟩ := h.2.2.2.2.1
  have e := n6.symm.trans hn
  rw [bx_inj (by omega) (by omega)] at e
  subst e
  refine s_widthC (by omega) hf ?_
  rw [n11 f j hf hj]
  exact hq

theorem pr_told (h : Inv X) (hK : ∀ X2, Inv X2 → K X2 Y) : PX9_told a b X Y (fun r X1 Y1 => PX10_told a b X1 Y1 (Kq K r)) := by
  obtain ⟨hS, hk, hF, hT, hN, hA, hV, hP, hW, hR⟩ := id h
  obtain ⟨N, hN10, hn, hn'⟩ := inv_n h
  obtain ⟨n1, n2, n3, n4, N', n5, n6, n7, n8, n9, n10, n11⟩ := id hN
  intro I60 h60
  unfold BX9_told_s
  simp only [eq_isKnown, bI_0, Classical.not_not, hn']
  refine ⟨fun hc => ?_, fun hc => ?_⟩
  · obtain ⟨j, hj, rfl⟩ := kn_of (N := N) (by omega) hc
    have wd : ∀ f, f < 2 → b = nI f → I60 (nI j) b X Y := by
      intro f hf hb
      subst hb
      apply h60
      unfold BX9_told_60
      refine pr_width h hN10 hn hj hf ?_
      intro I56 h56
      unfold BX10_told_s
      simp only [eq_noName, bI_0, Classical.not_not, hn]
      have w2 : I56 (nI j) (nI f) X Y := by
        apply h56
        unfold BX10_told_56
        exact s_widthM (by omega) hf n8 n9 (kq rfl (hK _ h))
      refine ⟨fun _ => ?_, fun g => absurd hc g⟩
      rcases (show f = 0 ∨ f = 1 by omega) with rfl | rfl
      · exact ⟨fun g' => absurd g' (by decide), fun _ => w2, fun g' => absurd g' (by decide), fun g' => absurd g' (by decide), fun g' => absurd g' (by decide), fun g' => absurd g' (by decide), fun g' => absurd g' (by decide), fun g' => absurd g' (by decide)⟩
      · exact ⟨fun g' => absurd g' (by decide), fun g' => absurd g' (by decide), fun _ => w2, fun g' => absurd g' (by decide), fun g' => absurd g' (by decide), fun g' => absurd g' (by decide), fun g' => absurd g' (by decide), fun g' => absurd g' (by decide)⟩
    refine ⟨fun g => ?_, fun g => wd 0 (by omega) g, fun g => wd 1 (by omega) g, fun g => ?_, fun g => ?_, fun g => ?_, fun g => ?_, fun g => ?_⟩
    · intro I56 h56
      unfold BX10_told_s
      simp only [eq_noName, bI_0, Classical.not_not, hn]
      refine ⟨fun _ => ?_, fun g => absurd hc g⟩
      have ne : ∀ k : Int32, 0 ≤ k.toInt → k.toInt ≤ 6 → b = k → False := fun k h1 h2 e => by subst e; omega
      exact ⟨fun _ => kq rfl (hK _ h), fun e => (ne 0 (by decide) (by decide) e).elim, fun e => (ne 1 (by decide) (by decide) e).elim, fun e => (ne 2 (by decide) (by decide) e).elim, fun e => (ne 3 (by decide) (by decide) e).elim, fun e => (ne 4 (by decide) (by decide) e).elim, fun e => (ne 5 (by decide) (by decide) e).elim, fun e => (ne 6 (by decide) (by decide) e).elim⟩
    · subst g
      refine ⟨vp_in_nI (by omega) (by omega), ?_⟩
      intro I56 h56
      unfold BX10_told_s
      simp only [eq_noName, bI_0, Classical.not_not, hn]
      refine ⟨fun _ => ?_, fun g => absurd hc g⟩
      exact ⟨fun g' => absurd g' (by decide), fun g' => absurd g' (by decide), fun g' => absurd g' (by decide), fun _ => ⟨vp_in_nI (by omega) (by omega), kq (by rw [hA.1]) (hK _ h)⟩, fun g' => absurd g' (by decide), fun g' => absurd g' (by decide), fun g' => absurd g' (by decide), fun g' => absurd g' (by decide)⟩
    · subst g
      refine ⟨vp_in_nI (by omega) (by omega), ?_⟩
      intro I56 h56
      unfold BX10_told_s
      simp only [eq_noName, bI_0, Classical.not_not, hn]
      refine ⟨fun _ => ?_, fun g => absurd hc g⟩
      exact ⟨fun g' => absurd g' (by decide), fun g' => absurd g' (by decide), fun g' => absurd g' (by decide), fun g' => absurd g' (by decide), fun _ => ⟨vp_in_nI (by omega) (by omega), kq (by rw [hA.2.1]) (hK _ h)⟩, fun g' => absurd g' (by decide), fun g' => absurd g' (by decide), fun g' => absurd g' (by decide)⟩
    · subst g
      refine ⟨vp_in_nI (by omega) (by omega), ?_⟩
      intro I56 h56
      unfold BX10_told_s
      simp only [eq_noName, bI_0, Classical.not_not, hn]
      refine ⟨fun _ => ?_, fun g => absurd hc g⟩
      exact ⟨fun g' => absurd g' (by decide), fun g' => absurd g' (by decide), fun g' => absurd g' (by decide), fun g' => absurd g' (by decide), fun g' => absurd g' (by decide), fun _ => ⟨vp_in_nI (by omega) (by omega), kq (by rw [hA.2.2.1]) (hK _ h)⟩, fun g' => absurd g' (by decide), fun g' => absurd g' (by decide)⟩
    · subst g
      refine ⟨vp_in_nI (by omega) (by omega), ?_⟩
      intro I56 h56
      unfold BX10_told_s
      simp only [eq_noName, bI_0, Classical.not_not, hn]
      refine ⟨fun _ => ?_, fun g => absurd hc g⟩
      exact ⟨fun g' => absurd g' (by decide), fun g' => absurd g' (by decide), fun g' => absurd g' (by decide), fun g' => absurd g' (by decide), fun g' => absurd g' (by decide), fun g' => absurd g' (by decide), fun _ => ⟨vp_in_nI (by omega) (by omega), kq (by rw [hA.2.2.2.1]) (hK _ h)⟩, fun g' => absurd g' (by decide)⟩
    · subst g
      refine ⟨vp_in_nI (by omega) (by omega), ?_⟩
      intro I56 h56
      unfold BX10_told_s
      simp only [eq_noName, bI_0, Classical.not_not, hn]
      refine ⟨fun _ => ?_, fun g => absurd hc g⟩
      exact ⟨fun g' => absurd g' (by decide), fun g' => absurd g' (by decide), fun g' => absurd g' (by decide), fun g' => absurd g' (by decide), fun g' => absurd g' (by decide), fun g' => absurd g' (by decide), fun g' => absurd g' (by decide), fun _ => ⟨vp_in_nI (by omega) (by omega), kq (by rw [n4]) (hK _ h)⟩⟩
  · intro I56 h56
    unfold BX10_told_s
    simp only [eq_noName, bI_0, Classical.not_not, hn]
    exact ⟨fun g => absurd g hc, fun _ => kq rfl (hK _ h)⟩
theorem inv_place (h : Inv X) : ∃ N P KK B, N ≤ 10 ∧ X 48 1 = nI N ∧ P ≤ 8 ∧ X 48 13 = nI P ∧ KK ≤ 4 * P ∧ X 48 16 = nI KK ∧ B ≤ 10 ∧ X 48 22 = nI B ∧ B = cb (X 62) KK ∧ (∀ j, j < P → ∃ v, v < 100 ∧ X 58 j = nI v) ∧ (∀ j, j < P → ∃ v, v < 2 ∧ X 59 j = nI v) ∧ (∀ j, j < KK → ∃ v, v < P ∧ X 60 j = nI v) ∧ (∀ j, j < KK → ∃ v, v < 4 ∧ X 61 j = nI v) ∧ (∀ j, j < KK → X 62 j = -1 ∨ ∃ v, v < N ∧ X 62 j = nI v) := by
  obtain ⟨p1, p2, p3, p4, p5, p6, p7, p8, p9, p10, p11, M, P, KK, B, m1, m2, m3, m4, m5, m6, m7, m8, m9, m10, m11, m12, m13, m14, m15, m16, m17⟩ := h.2.2.2.2.2.2.2.1
  exact ⟨M, P, KK, B, m1, m2, m3, m4, m5, m6, m7, m8, m9, m11, m12, m13, m15, m16⟩
/-- how wide a place is -/
def wAt (X : XT) (p : Nat) : Int32 := if X 62 p = -1 then X 64 p else wsum (X 49) (X 50) (X 51) (X 59 (X 60 p).toNatClampNeg).toNatClampNeg (X 62 p).toNatClampNeg
theorem s_wAtM (h : Inv X) {p KK : Nat} (hk : X 48 16 = nI KK) (hKK : KK ≤ 32) (hp : p < KK) (hq : Q (wAt X p) X Y) : PX10_wideAt (nI p) X Y Q := by
  obtain ⟨n1, n2, n3, n4, N', n5, n6, n7, n8, n9, n10, n11⟩ := id h.2.2.2.2.1
  obtain ⟨N, P, K', B, m1, m2, m3, m4, m5, m6, m7, m8, m9, m10, m11, m12, m13, m14⟩ := inv_place h
  have e := m6.symm.trans hk
  rw [bx_inj (by omega) (by omega)] at e
  subst e
  unfold PX10_wideAt BX10_wideAt_s
  rw [cl_nI (by omega)]
  unfold wAt at hq
  refine ⟨vp_in_nI (by omega) (by omega), ?_⟩
  rcases m14 p hp with g | ⟨v, hv, g⟩
  · rw [if_pos g] at hq
    rw [g]
    exact ⟨fun z => absurd z (by decide), fun _ => ⟨vp_in_nI (by omega) (by omega), hq⟩⟩
  · obtain ⟨pg, hpg, e1⟩ := m12 p hp
    obtain ⟨f, hf, e2⟩ := m11 pg hpg
    rw [if_neg (by rw [g]; intro z; have := nI_pos (n := v) (by omega); rw [z] at this; exact this (by decide)), g, e1, cl_nI (by omega), e2, cl_nI (by omega), cl_nI (by omega)] at hq
    rw [g, e1, cl_nI (show pg < 2147483648 by omega), e2]
    refine ⟨fun _ => ⟨vp_in_nI (by omega) (by omega), vp_in_nI (by omega) (by omega), vp_in_nI (by omega) (by omega), s_widthM (by omega) hf n8 n9 hq⟩, fun z => absurd (nI_pos' (by omega)) z⟩
theorem s_wAtC (h : Inv X) {p KK : Nat} (hk : X 48 16 = nI KK) (hKK : KK ≤ 32) (hp : p < KK) (hq : Q (wAt X p) X Y) : PX0_widthAt (nI p) X Y Q := by
  obtain ⟨p1, p2, p3, p4, p5, p6, p7, p8, p9, p10, p11, -⟩ := id h.2.2.2.2.2.2.2.1
  obtain ⟨N, P, K', B, m1, m2, m3, m4, m5, m6, m7, m8, m9, m10, m11, m12, m13, m14⟩ := inv_place h
  have e := m6.symm.trans hk
  rw [bx_inj (by omega) (by omega)] at e
  subst e
  unfold PX0_widthAt BX0_widthAt_s
  rw [cl_nI (by omega), p8, p6, p5, p10]
  unfold wAt at hq
  refine ⟨vp_in_nI (by omega) (by omega), fun w hw => ?_⟩
  subst hw
  rcases m14 p hp with g | ⟨v, hv, g⟩
  · rw [if_pos g] at hq
    exact ⟨fun z => absurd g z, fun _ => ⟨vp_in_nI (by omega) (by omega), hq⟩⟩
  · obtain ⟨pg, hpg, e1⟩ := m12 p hp
    obtain ⟨f, hf, e2⟩ := m11 pg hpg
    have ne : ¬ nI v = -1 := by intro z; have := nI_pos (n := v) (by omega); rw [z] at this; exact this (by decide)
    rw [if_neg (by rw [g]; exact ne), g, e1, cl_nI (by omega), e2, cl_nI (by omega), cl_nI (by omega)] at hq
    rw [g, e1, cl_nI (show pg < 2147483648 by omega), e2]
    exact ⟨fun _ => ⟨vp_in_nI (by omega) (by omega), vp_in_nI (by omega) (by omega), pr_width h m1 m2 hv hf hq⟩, fun z => absurd z ne⟩
theorem pr_place (h : Inv X) (hK : ∀ X2, Inv X2 → K X2 Y) : PX9_place a b X Y (fun r X1 Y1 => PX10_place a b X1 Y1 (Kq K r)) := by
  obtain ⟨p1, p2, p3, p4, p5, p6, p7, p8, p9, p10, p11, -⟩ := id h.2.2.2.2.2.2.2.1
  obtain ⟨N, P, KK, B, m1, m2, m3, m4, m5, m6, m7, m8, m9, m10, m11, m12, m13, m14⟩ := inv_place h
  unfold PX9_place BX9_place_s
  rw [p2, m6]
  simp only [eq_within, bI_0, Classical.not_not]
  have ref : ∀ r, (¬ (0 ≤ a ∧ a ≤ nI KK - 1) → Kq K r (-1001) X Y) → (0 ≤ a ∧ a ≤ nI KK - 1 → (b.toInt < 0 ∨ 4 < b.toInt → Kq K r (-1002) X Y) ∧ (b = 0 → vp_in a 32 ∧ Kq K r (X 60 a.toNatClampNeg) X Y) ∧ (b = 1 → vp_in a 32 ∧ Kq K r (X 61 a.toNatClampNeg) X Y) ∧ (b = 2 → vp_in a 32 ∧ Kq K r (X 62 a.toNatClampNeg) X Y) ∧ (b = 3 → vp_in a 32 ∧ Kq K r (X 63 a.toNatClampNeg) X Y) ∧ (b = 4 → PX10_wideAt a X Y (fun r7 X8 Y9 => Kq K r r7 X8 Y9))) → PX10_place a b X Y (Kq K r) := by
    intro r g1 g2
    unfold PX10_place BX10_place_s
    rw [l64_0, m6, eq_in3]
    simp only [bI_0, Classical.not_not]
    exact ⟨g2, g1⟩
  refine ⟨fun hc => ?_, fun hc => ref _ (fun _ => kq rfl (hK _ h)) (fun z => absurd z hc)⟩
  obtain ⟨j, hj, rfl⟩ := kn_of (N := KK) (by omega) hc
  refine ⟨fun g => ?_, fun g => ?_, fun g => ?_, fun g => ?_, fun g => ?_, fun g => ?_⟩
  · refine ref _ (fun z => absurd hc z) (fun _ => ?_)
    have ne : ∀ k : Int32, 0 ≤ k.toInt → k.toInt ≤ 4 → b = k → False := fun k h1 h2 e => by subst e; omega
    exact ⟨fun _ => kq rfl (hK _ h), fun e => (ne 0 (by decide) (by decide) e).elim, fun e => (ne 1 (by decide) (by decide) e).elim, fun e => (ne 2 (by decide) (by decide) e).elim, fun e => (ne 3 (by decide) (by decide) e).elim, fun e => (ne 4 (by decide) (by decide) e).elim⟩
  · subst g
    refine ⟨vp_in_nI (by omega) (by omega), ref _ (fun z => absurd hc z) (fun _ => ?_)⟩
    exact ⟨fun g' => absurd g' (by decide), fun _ => ⟨vp_in_nI (by omega) (by omega), kq (by rw [p6]) (hK _ h)⟩, fun g' => absurd g' (by decide), fun g' => absurd g' (by decide), fun g' => absurd g' (by decide), fun g' => absurd g' (by decide)⟩
  · subst g
    refine ⟨vp_in_nI (by omega) (by omega), ref _ (fun z => absurd hc z) (fun _ => ?_)⟩
    exact ⟨fun g' => absurd g' (by decide), fun g' => absurd g' (by decide), fun _ => ⟨vp_in_nI (by omega) (by omega), kq (by rw [p7]) (hK _ h)⟩, fun g' => absurd g' (by decide), fun g' => absurd g' (by decide), fun g' => absurd g' (by decide)⟩
  · subst g
    refine ⟨vp_in_nI (by omega) (by omega), ref _ (fun z => absurd hc z) (fun _ => ?_)⟩
    exact ⟨fun g' => absurd g' (by decide), fun g' => absurd g' (by decide), fun g' => absurd g' (by decide), fun _ => ⟨vp_in_nI (by omega) (by omega), kq (by rw [p8]) (hK _ h)⟩, fun g' => absurd g' (by decide), fun g' => absurd g' (by decide)⟩
  · subst g
    refine ⟨vp_in_nI (by omega) (by omega), ref _ (fun z => absurd hc z) (fun _ => ?_)⟩
    exact ⟨fun g' => absurd g' (by decide), fun g' => absurd g' (by decide), fun g' => absurd g' (by decide), fun g' => absurd g' (by decide), fun _ => ⟨vp_in_nI (by omega) (by omega), kq (by rw [p9]) (hK _ h)⟩, fun g' => absurd g' (by decide)⟩
  · subst g
    refine s_wAtC h m6 (by omega) hj (ref _ (fun z => absurd hc z) (fun _ => ?_))
    exact ⟨fun g' => absurd g' (by decide), fun g' => absurd g' (by decide), fun g' => absurd g' (by decide), fun g' => absurd g' (by decide), fun g' => absurd g' (by decide), fun _ => s_wAtM h m6 (by omega) hj (kq rfl (hK _ h))⟩
theorem pr_keep (h : Inv X) (hK : ∀ X2, Inv X2 → K X2 Y) : PX9_keep a X Y (fun r X1 Y1 => PX10_keep a X1 Y1 (Kq K r)) := by
  obtain ⟨hS, hk, hF, hT, hN, hA, hV, hP, hW, hR⟩ := id h
  obtain ⟨N, hN10, hn, hn'⟩ := inv_n h
  unfold PX9_keep BX9_keep_s
  rw [eq_areKnown hN10 hn']
  simp only [bI_0, Classical.not_not]
  refine ⟨fun hc w hw => ?_, fun hc => ?_⟩
  · unfold PX10_keep BX10_keep_s
    rw [eq_noSet hN10 (by rw [sX_ne (by decide)]; exact hn)]
    simp only [bI_0, Classical.not_not]
    refine ⟨fun _ w' hw' => kq ?_ (hK _ ?_), fun g => absurd hc g⟩
    · rw [hw, hw']
      exact hk.1
    · obtain ⟨m, hm, rfl⟩ := bx_set (by omega) hc
      exact ⟨hS, ⟨rfl, N, m, hN10, hn, hm, rfl⟩, hF, hT, hN, hA, hV, hP, hW, hR⟩
  · unfold PX10_keep BX10_keep_s
    rw [eq_noSet hN10 hn]
    simp only [bI_0, Classical.not_not]
    exact ⟨fun g => absurd g hc, fun _ => kq rfl (hK _ h)⟩
theorem pr_away (h : Inv X) (hK : ∀ X2, Inv X2 → K X2 Y) : PX9_away a b X Y (fun r X1 Y1 => PX10_away a b X1 Y1 (Kq K r)) := by
  obtain ⟨hS, hk, hF, hT, hN, hA, hV, hP, hW, hR⟩ := id h
  obtain ⟨N, hN10, hn, hn'⟩ := inv_n h
  unfold PX9_away BX9_away_s
  rw [eq_within, eq_areKnown hN10 hn']
  simp only [bI_0, Classical.not_not]
  refine ⟨fun hc => ?_, fun hc => ⟨fun hd => ?_, fun hd => ?_⟩⟩
  · unfold PX10_away BX10_away_s
    rw [eq_isReader, eq_noSet hN10 hn]
    simp only [bI_0, Classical.not_not]
    exact ⟨fun _ => kq rfl (hK _ h), fun g => absurd g hc⟩
  · obtain ⟨j, _, hj, rfl⟩ := in_rng (a := 0) (b := 3) (by omega) (by omega) hc
    refine ⟨vp_in_nI (by omega) (by omega), fun w hw => ⟨vp_in_nI (by omega) (by omega), ?_⟩⟩
    unfold PX10_away BX10_away_s
    rw [eq_isReader, eq_noSet hN10 (by rw [sX_ne (by decide)]; exact hn)]
    simp only [bI_0, Classical.not_not]
    refine ⟨fun g => absurd hc g, fun _ => ⟨fun _ => ⟨vp_in_nI (by omega) (by omega), fun w' hw' => ⟨vp_in_nI (by omega) (by omega), kq ?_ (hK _ ?_)⟩⟩, fun g => absurd hd g⟩⟩
    · rw [hw, hw', hR.1]
      rfl
    · obtain ⟨m, hm, rfl⟩ := bx_set (by omega) hd
      obtain ⟨r1, r2, M, r3, r4, r5, r6⟩ := hR
      have e := r4.symm.trans hn
      rw [bx_inj (by omega) (by omega)] at e
      subst e
      exact ⟨hS, hk, hF, hT, hN, hA, hV, hP, hW, ⟨by show upd (X 29) _ _ = upd (X 78) _ _; rw [r1], r2, M, r3, r4, all_upd (P := fun z => ∃ m, m < 2 ^ M ∧ z = nI m) r5 ⟨m, hm, rfl⟩, r6⟩⟩
  · unfold PX10_away BX10_away_s
    rw [eq_isReader, eq_noSet hN10 hn]
    simp only [bI_0, Classical.not_not]
    exact ⟨fun g => absurd hc g, fun _ => ⟨fun g => absurd g hd, fun _ => kq rfl (hK _ h)⟩⟩
theorem pr_knows (h : Inv X) (hK : ∀ X2, Inv X2 → K X2 Y) : PX9_knows a b c X Y (fun r X1 Y1 => PX10_knows a b c X1 Y1 (Kq K r)) := by
  obtain ⟨hS, hk, hF, hT, hN, hA, hV, hP, hW, hR⟩ := id h
  obtain ⟨N, P, KK, B, m1, m2, m3, m4, m5, m6, m7, m8, m9, m10, m11, m12, m13, m14⟩ := inv_place h
  have hb : X 13 13 = nI B := hP.2.2.1.trans m8
  have hn' : X 3 9 = nI N := hN.1.trans m2
  have ref : ∀ r (X1 : XT), X1 48 = X 48 → ((¬ (0 ≤ a ∧ a ≤ 3) → Kq K r (-1001) X1 Y) ∧ ((0 ≤ a ∧ a ≤ 3) → (¬ (0 ≤ b ∧ b ≤ nI B - 1) → Kq K r (-1001) X1 Y) ∧ ((0 ≤ b ∧ b ≤ nI B - 1) → ((¬ c = -1 ∧ ¬ (0 ≤ c ∧ c ≤ nI N - 1)) → Kq K r (-1001) X1 Y) ∧ ((c = -1 ∨ (0 ≤ c ∧ c ≤ nI N - 1)) → vp_in (10 * a + b) 40 ∧ ∀ w1 : Int32, w1 = X1 79 (10 * a + b).toNatClampNeg → vp_in (10 * a + b) 40 ∧ ∀ X3 : XT, X3 = sX X1 79 (10 * a + b).toNatClampNeg c → Kq K r w1 X3 Y)))) → PX10_knows a b c X1 Y (Kq K r) := by
    intro r X1 e48 g
    intro I32 h32
    unfold BX10_knows_s
    rw [eq_isReader, eq_noBar, eq_noName, e48, m8, m2]
    simp only [bI_0, Classical.not_not]
    refine ⟨g.1, fun g1 => ⟨(g.2 g1).1, fun g2 => ⟨fun g3 => ?_, fun g3 => ⟨fun g4 => ?_, fun g4 => ((g.2 g1).2 g2).1 ⟨g3, g4⟩⟩⟩⟩⟩
    · apply h32
      exact ((g.2 g1).2 g2).2 (Or.inl g3)
    · apply h32
      exact ((g.2 g1).2 g2).2 (Or.inr g4)
  intro I40 h40
  unfold BX9_knows_s
  rw [eq_within, eq_isBar, eq_isKnown, hb, hn']
  simp only [bI_0, Classical.not_not]
  have bad : (¬ (0 ≤ a ∧ a ≤ 3) ∨ ¬ (0 ≤ b ∧ b ≤ nI B - 1) ∨ (¬ c = -1 ∧ ¬ (0 ≤ c ∧ c ≤ nI N - 1))) → PX10_knows a b c X Y (Kq K (-1001)) := by
    intro hb
    refine ref _ X rfl ⟨fun _ => kq rfl (hK _ h), fun g1 => ⟨fun _ => kq rfl (hK _ h), fun g2 => ⟨fun _ => kq rfl (hK _ h), fun g3 => ?_⟩⟩⟩
    rcases hb with z | z | z
    · exact absurd g1 z
    · exact absurd g2 z
    · rcases g3 with g3 | g3
      · exact absurd g3 z.1
      · exact absurd g3 z.2
  refine ⟨fun g1 => bad (Or.inl g1), fun g1 => ⟨fun g2 => bad (Or.inr (Or.inl g2)), fun g2 => ?_⟩⟩
  have good : (c = -1 ∨ (0 ≤ c ∧ c ≤ nI N - 1)) → I40 a b c X Y := by
    intro g3
    obtain ⟨r, _, hr, rfl⟩ := in_rng (a := 0) (b := 3) (by omega) (by omega) g1
    obtain ⟨j, hj, rfl⟩ := kn_of (N := B) (by omega) g2
    apply h40
    unfold BX9_knows_40 PX4_learn BX4_learn_s
    rw [mul10, cl_nI (by omega)]
    refine ⟨vp_in_nI (by omega) (by omega), fun w hw => ⟨vp_in_nI (by omega) (by omega), fun X3 hX3 => ?_⟩⟩
    refine ref w X3 (by rw [hX3, sX_ne (by decide)]) ⟨fun z => absurd g1 z, fun _ => ⟨fun z => absurd g2 z, fun _ => ⟨fun z => ?_, fun _ => ?_⟩⟩⟩
    · rcases g3 with g3 | g3
      · exact absurd g3 z.1
      · exact absurd g3 z.2
    · rw [mul10', cl_nI (by omega)]
      refine ⟨vp_in_nI (by omega) (by omega), fun w' hw' => ⟨vp_in_nI (by omega) (by omega), fun X4 hX4 => kq ?_ (hK _ ?_)⟩⟩
      · rw [hw, hw', hX3, hR.2.1]
        rfl
      · subst hX4 hX3
        obtain ⟨r1, r2, M, r3, r4, r5, r6⟩ := hR
        have e := r4.symm.trans m2
        rw [bx_inj (by omega) (by omega)] at e
        subst e
        refine ⟨hS, hk, hF, hT, hN, hA, hV, hP, hW, ⟨r1, by show upd (X 30) _ _ = upd (X 79) _ _; rw [r2], M, r3, r4, r5, lt_upd (P := fun z => z = -1 ∨ ∃ v, v < M ∧ z = nI v) r6 ?_⟩⟩
        rcases g3 with g3 | g3
        · exact Or.inl g3
        · obtain ⟨v, hv, e⟩ := kn_of (N := M) (by omega) g3
          exact Or.inr ⟨v, hv, e⟩
  exact ⟨fun g3 => good (Or.inl g3), fun g3 => ⟨fun g4 => good (Or.inr g4), fun g4 => bad (Or.inr (Or.inr ⟨g3, g4⟩))⟩⟩
end CALLS
