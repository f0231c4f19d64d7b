/-! THE SIMPLE CALLS: both sides answer alike, and the invariant stands behind them -/
abbrev Kq (K : XT → YT → Prop) (r : Int32) : Int32 → XT → YT → Prop := fun r' X2 Y2 => ((r = r' → K X2 Y2) ∧ (¬ r = r' → False))
theorem kq {K : XT → YT → Prop} {r r' : Int32} {X : XT} {Y : YT} (h : r = r') (k : K X Y) : Kq K r r' X Y := ⟨fun _ => k, fun n => absurd h n⟩
theorem kn_of {p : Int32} {N : Nat} (hN : N < 1000) (h : 0 ≤ p ∧ p ≤ nI N - 1) : ∃ j, j < N ∧ p = nI j := by
  obtain ⟨j, hj, rfl⟩ := nI_of (x := p) (by rw [i_lt]; simpa using h.1)
  refine ⟨j, ?_, rfl⟩
  have h2 := Int32.le_iff_toInt_le.mp h.2
  rw [nI_toInt hj] at h2
  have h3 : (nI N - 1).toInt = (N : Int) - 1 := pk_sub_toInt (a := N) (b := 1) (by omega) (by omega)
  omega
theorem in_rng {p : Int32} {a b : Nat} (ha : a < 1000) (hb : b < 1000) (h : nI a ≤ p ∧ p ≤ nI b) : ∃ j, a ≤ j ∧ j ≤ b ∧ p = nI j := by
  have h1 := Int32.le_iff_toInt_le.mp h.1
  have h2 := Int32.le_iff_toInt_le.mp h.2
  rw [nI_toInt (by omega)] at h1 h2
  obtain ⟨j, hj, rfl⟩ := nI_of (x := p) (by
    intro h0
    have h3 := Int32.lt_iff_toInt_lt.mp h0
    have h4 : (0 : Int32).toInt = 0 := rfl
    omega)
  rw [nI_toInt hj] at h1 h2
  exact ⟨j, by omega, by omega, rfl⟩
theorem all_upd {P : Int32 → Prop} {f : Nat → Int32} {k : Nat} {v : Int32} (h : ∀ j, P (f j)) (hv : P v) : ∀ j, P (upd f k v j) := by
  intro j
  unfold upd
  split
  · exact hv
  · exact h j
theorem lt_upd {P : Int32 → Prop} {f : Nat → Int32} {k n : Nat} {v : Int32} (h : ∀ j, j < n → P (f j)) (hv : P v) : ∀ j, j < n → P (upd f k v j) := by
  intro j hj
  unfold upd
  split
  · exact hv
  · exact h j hj
section SIMPLE
variable {X : XT} {Y : YT} {K : XT → YT → Prop} {a b c : Int32}
theorem pr_slack (h : Inv X) (hK : ∀ X2, Inv X2 → K X2 Y) : PX9_slack a X Y (fun r X1 Y1 => PX10_slack a X1 Y1 (Kq K r)) := by
  unfold PX9_slack BX9_slack_s
  rw [eq_within]
  simp only [bI_0, Classical.not_not]
  refine ⟨fun hc w hw => ?_, fun hc => ?_⟩
  · unfold PX10_slack BX10_slack_s
    rw [l64_0, l64_9, eq_in3]
    simp only [bI_0, Classical.not_not]
    refine ⟨fun _ w' hw' => kq ?_ (hK _ ?_), fun hn => absurd hc hn⟩
    · rw [hw, hw']
      exact h.1.1
    · obtain ⟨j, _, hj, rfl⟩ := in_rng (a := 0) (b := 9) (by omega) (by omega) hc
      exact ⟨⟨rfl, j, hj, rfl⟩, h.2⟩
  · unfold PX10_slack BX10_slack_s
    rw [l64_0, l64_9, eq_in3]
    simp only [bI_0, Classical.not_not]
    exact ⟨fun hn => absurd hn hc, fun _ => kq rfl (hK _ h)⟩
theorem pr_fault (h : Inv X) (hK : ∀ X2, Inv X2 → K X2 Y) : PX9_fault X Y (fun r X1 Y1 => PX10_fault X1 Y1 (Kq K r)) := by
  unfold PX9_fault BX9_fault_s PX10_fault BX10_fault_s
  exact kq h.2.2.1 (hK _ h)
theorem pr_offices (h : Inv X) (hK : ∀ X2, Inv X2 → K X2 Y) : PX9_offices a b X Y (fun r X1 Y1 => PX10_offices a b X1 Y1 (Kq K r)) := by
  obtain ⟨hS, hk, hF, hT, hN, hA, hV, hP, hW, hR⟩ := id h
  unfold PX9_offices BX9_offices_s
  have e15 : ((1 : Int32) <<< ((4 : Int32) &&& 31)) - 1 = 15 := by decide
  simp only [eq_isKnown, eq_allBelow, eq_within, bI_0, Classical.not_not, hN.1, e15]
  obtain ⟨N, hN10, hn⟩ : ∃ N, N ≤ 10 ∧ X 48 1 = nI N := by obtain ⟨-, -, -, -, N, h1, h2, -⟩ := hN; exact ⟨N, h1, h2⟩
  refine ⟨fun hc => ⟨fun hd => ?_, fun hd => ?_⟩, fun hc => ?_⟩
  · obtain ⟨j, hj, rfl⟩ := kn_of (N := N) (by omega) (by rw [← hn]; exact hc)
    refine ⟨vp_in_nI (by omega) (by omega), fun w hw => ⟨vp_in_nI (by omega) (by omega), ?_⟩⟩
    unfold PX10_offices BX10_offices_s
    simp only [l64_0, l64_15, eq_noName, eq_in3, bI_0, Classical.not_not]
    refine ⟨fun _ => ⟨fun _ => ⟨vp_in_nI (by omega) (by omega), fun w' hw' => ⟨vp_in_nI (by omega) (by omega), kq ?_ (hK _ ?_)⟩⟩, fun hn => absurd hd hn⟩, fun hn => absurd hc hn⟩
    · rw [hw, hw', hA.1]
      rfl
    · obtain ⟨v, _, hv, rfl⟩ := in_rng (a := 0) (b := 15) (by omega) (by omega) hd
      obtain ⟨g1, g2, g3, g4, g5, g6⟩ := hA
      exact ⟨hS, hk, hF, hT, hN, ⟨by show upd (X 8) _ _ = upd (X 52) _ _; rw [g1], g2, g3, g4, all_upd (P := fun z => ∃ v, v < 16 ∧ z = nI v) g5 ⟨v, by omega, rfl⟩, g6⟩, hV, hP, hW, hR⟩
  · unfold PX10_offices BX10_offices_s
    simp only [l64_0, l64_15, eq_noName, eq_in3, bI_0, Classical.not_not]
    exact ⟨fun _ => ⟨fun hn => absurd hn hd, fun _ => kq rfl (hK _ h)⟩, fun hn => absurd hc hn⟩
  · unfold PX10_offices BX10_offices_s
    simp only [l64_0, l64_15, eq_noName, eq_in3, bI_0, Classical.not_not]
    exact ⟨fun hn => absurd hn hc, fun _ => kq rfl (hK _ h)⟩
theorem pr_weight (h : Inv X) (hK : ∀ X2, Inv X2 → K X2 Y) : PX9_weight a b X Y (fun r X1 Y1 => PX10_weight a b X1 Y1 (Kq K r)) := by
  obtain ⟨hS, hk, hF, hT, hN, hA, hV, hP, hW, hR⟩ := id h
  unfold PX9_weight BX9_weight_s
  simp only [eq_isKnown, eq_within, bI_0, Classical.not_not, hN.1]
  obtain ⟨N, hN10, hn⟩ : ∃ N, N ≤ 10 ∧ X 48 1 = nI N := by obtain ⟨-, -, -, -, N, h1, h2, -⟩ := hN; exact ⟨N, h1, h2⟩
  refine ⟨fun hc => ⟨fun hd => ?_, fun hd => ?_⟩, fun hc => ?_⟩
  · obtain ⟨j, hj, rfl⟩ := kn_of (N := N) (by omega) (by rw [← hn]; exact hc)
    refine ⟨vp_in_nI (by omega) (by omega), fun w hw => ⟨vp_in_nI (by omega) (by omega), ?_⟩⟩
    unfold PX10_weight BX10_weight_s
    simp only [l64_1, l64_9, eq_noName, eq_in3, bI_0, Classical.not_not]
    refine ⟨fun _ => ⟨fun _ => ⟨vp_in_nI (by omega) (by omega), fun w' hw' => ⟨vp_in_nI (by omega) (by omega), kq ?_ (hK _ ?_)⟩⟩, fun hn => absurd hd hn⟩, fun hn => absurd hc hn⟩
    · rw [hw, hw', hA.2.2.2.1]
      rfl
    · obtain ⟨v, hv1, hv, rfl⟩ := in_rng (a := 1) (b := 9) (by omega) (by omega) hd
      obtain ⟨g1, g2, g3, g4, g5, g6, g7, g8, M, g9, g10, g11⟩ := hA
      exact ⟨hS, hk, hF, hT, hN, ⟨g1, g2, g3, by show upd (X 11) _ _ = upd (X 55) _ _; rw [g4], g5, g6, g7, all_upd (P := fun z => ∃ v, v ≤ 9 ∧ z = nI v) g8 ⟨v, by omega, rfl⟩, M, g9, g10, lt_upd (P := fun z => ∃ v, 1 ≤ v ∧ v ≤ 9 ∧ z = nI v) g11 ⟨v, hv1, hv, rfl⟩⟩, hV, hP, hW, hR⟩
  · unfold PX10_weight BX10_weight_s
    simp only [l64_1, l64_9, eq_noName, eq_in3, bI_0, Classical.not_not]
    exact ⟨fun _ => ⟨fun hn => absurd hn hd, fun _ => kq rfl (hK _ h)⟩, fun hn => absurd hc hn⟩
  · unfold PX10_weight BX10_weight_s
    simp only [l64_1, l64_9, eq_noName, eq_in3, bI_0, Classical.not_not]
    exact ⟨fun hn => absurd hn hc, fun _ => kq rfl (hK _ h)⟩
end SIMPLE
