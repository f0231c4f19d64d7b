/-! the whole script: PL by induction over its calls -/
set_option maxHeartbeats 4000000 in
set_option maxRecDepth 100000 in
theorem pl_ok {L : Nat} {xs : Nat → Int32} (hL : L ≤ 2048) : PL L xs X0 Y0 := by
  intro I18 I420 I447 h18 h420 h447
  have key : ∀ d a X Y, L ≤ a + d → a < 5000 → Inv X → I18 (nI a) X Y := by
    intro d
    have ge : ∀ a, a < 5000 → ¬ nI L - 4 < nI a → a + 4 ≤ L := by
      intro a ha g
      rw [Int32.lt_iff_toInt_lt, show (4 : Int32) = nI 4 from rfl, pk_sub_toInt (by omega) (by omega), nI_toInt (by omega)] at g
      omega
    induction d with
    | zero =>
      intro a X Y h1 h2 h
      apply h18
      unfold BL_18
      exact ⟨fun _ => trivial, fun g => absurd (ge a h2 g) (by omega)⟩
    | succ d ih =>
      intro a X Y h1 h2 h
      apply h18
      unfold BL_18
      refine ⟨fun _ => trivial, fun g => ?_⟩
      have hle := ge a h2 g
      have v0 : vp_in (nI a) L := vp_in_nI (by omega) (by omega)
      have v1 : vp_in (nI a + 1) L := by
        rw [nI_1]
        exact vp_in_nI (by omega) (by omega)
      have v2 : vp_in (nI a + 2) L := by
        rw [show (2 : Int32) = nI 2 from rfl, nI_add]
        exact vp_in_nI (by omega) (by omega)
      have v3 : vp_in (nI a + 3) L := by
        rw [show (3 : Int32) = nI 3 from rfl, nI_add]
        exact vp_in_nI (by omega) (by omega)
      have nx : ∀ X2 Y2, Inv X2 → ∀ w : Int32, w = nI a + 4 → I18 w X2 Y2 := by
        intro X2 Y2 h2 w e
        rw [e, show (4 : Int32) = nI 4 from rfl, nI_add]
        exact ih (a + 4) X2 Y2 (by omega) (by omega) h2
      have nv : ∀ c : Int32, (c = 0 ∧ xs (nI a + 3).toNatClampNeg = 0) ∨ (c = 1 ∧ ¬ xs (nI a + 3).toNatClampNeg = 0) → I420 (nI a) c (xs (nI a + 2).toNatClampNeg) (xs (nI a + 1).toNatClampNeg) X Y := by
        intro c hc
        apply h420
        unfold BL_420
        refine pr_never (K := fun X2 Y2 => ∀ w : Int32, w = nI a + 4 → I18 w X2 Y2) (hc.imp (fun z => z.1) (fun z => z.1)) h (fun X2 i => nx X2 Y i) (fun r X1 hp => ⟨v1, v2, v3, fun z => ?_, fun z => ?_⟩)
        · rcases hc with ⟨e, _⟩ | ⟨_, n⟩
          · subst e
            exact h447 _ _ _ _ _ _ _ hp
          · exact absurd z n
        · rcases hc with ⟨_, y⟩ | ⟨e, _⟩
          · exact absurd y z
          · subst e
            exact h447 _ _ _ _ _ _ _ hp
      refine ⟨v0, fun _ w e => nx X Y h w e, ?_, ?_, ?_, ?_, ?_, ?_, ?_, ?_, ?_, ?_, ?_, ?_, ?_, ?_, ?_, ?_, ?_, ?_, ?_, ?_, ?_, ?_, ?_, ?_, ?_, ?_, ?_, ?_, ?_, ?_⟩
      · exact fun _ => ⟨v1, v2, v3, pr_wide (K := fun X2 Y2 => ∀ w : Int32, w = nI a + 4 → I18 w X2 Y2) h (fun X2 i => nx X2 Y i)⟩
      · exact fun _ => ⟨v1, v2, v3, pr_feed (K := fun X2 Y2 => ∀ w : Int32, w = nI a + 4 → I18 w X2 Y2) h (fun X2 i => nx X2 Y i)⟩
      · exact fun _ => pr_name (K := fun X2 Y2 => ∀ w : Int32, w = nI a + 4 → I18 w X2 Y2) h (fun X2 i => nx X2 Y i)
      · exact fun _ => ⟨v1, v2, pr_offices (K := fun X2 Y2 => ∀ w : Int32, w = nI a + 4 → I18 w X2 Y2) h (fun X2 i => nx X2 Y i)⟩
      · exact fun _ => ⟨v1, v2, v3, pr_there (K := fun X2 Y2 => ∀ w : Int32, w = nI a + 4 → I18 w X2 Y2) h (fun X2 i => nx X2 Y i)⟩
      · exact fun _ => ⟨v1, v2, pr_weight (K := fun X2 Y2 => ∀ w : Int32, w = nI a + 4 → I18 w X2 Y2) h (fun X2 i => nx X2 Y i)⟩
      · exact fun _ => ⟨v1, v2, v3, fun z => nv 0 (Or.inl ⟨rfl, z⟩), fun z => nv 1 (Or.inr ⟨rfl, z⟩)⟩
      · exact fun _ => ⟨v1, pr_slack (K := fun X2 Y2 => ∀ w : Int32, w = nI a + 4 → I18 w X2 Y2) h (fun X2 i => nx X2 Y i)⟩
      · exact fun _ => ⟨v1, v2, pr_told (K := fun X2 Y2 => ∀ w : Int32, w = nI a + 4 → I18 w X2 Y2) h (fun X2 i => nx X2 Y i)⟩
      · exact fun _ => ⟨v1, pr_count (K := fun X2 Y2 => ∀ w : Int32, w = nI a + 4 → I18 w X2 Y2) h (fun X2 i => nx X2 Y i)⟩
      · exact fun _ => pr_page (K := fun X2 Y2 => ∀ w : Int32, w = nI a + 4 → I18 w X2 Y2) h (fun X2 i => nx X2 Y i)
      · exact fun _ => pr_fault (K := fun X2 Y2 => ∀ w : Int32, w = nI a + 4 → I18 w X2 Y2) h (fun X2 i => nx X2 Y i)
      · exact fun _ => ⟨v1, v2, pr_place (K := fun X2 Y2 => ∀ w : Int32, w = nI a + 4 → I18 w X2 Y2) h (fun X2 i => nx X2 Y i)⟩
      · exact fun _ => ⟨v1, v2, pr_twins (K := fun X2 Y2 => ∀ w : Int32, w = nI a + 4 → I18 w X2 Y2) h (fun X2 i => nx X2 Y i)⟩
      · exact fun _ => pr_readings (K := fun X2 Y2 => ∀ w : Int32, w = nI a + 4 → I18 w X2 Y2) h nx
      · exact fun _ => ⟨v1, v2, pr_reading (K := fun X2 Y2 => ∀ w : Int32, w = nI a + 4 → I18 w X2 Y2) h nx⟩
      · exact fun _ => ⟨v1, pr_may (K := fun X2 Y2 => ∀ w : Int32, w = nI a + 4 → I18 w X2 Y2) h nx⟩
      · exact fun _ => ⟨v1, pr_fits (K := fun X2 Y2 => ∀ w : Int32, w = nI a + 4 → I18 w X2 Y2) h (fun X2 i => nx X2 Y i)⟩
      · exact fun _ => ⟨v1, v2, v3, pr_odds (K := fun X2 Y2 => ∀ w : Int32, w = nI a + 4 → I18 w X2 Y2) h nx⟩
      · exact fun _ => ⟨v1, pr_on (K := fun X2 Y2 => ∀ w : Int32, w = nI a + 4 → I18 w X2 Y2) h nx⟩
      · exact fun _ => ⟨v1, v2, pr_away (K := fun X2 Y2 => ∀ w : Int32, w = nI a + 4 → I18 w X2 Y2) h (fun X2 i => nx X2 Y i)⟩
      · exact fun _ => ⟨v1, v2, v3, pr_knows (K := fun X2 Y2 => ∀ w : Int32, w = nI a + 4 → I18 w X2 Y2) h (fun X2 i => nx X2 Y i)⟩
      · exact fun _ => ⟨v1, pr_together (K := fun X2 Y2 => ∀ w : Int32, w = nI a + 4 → I18 w X2 Y2) h nx⟩
      · exact fun _ => ⟨v1, v2, pr_sees (K := fun X2 Y2 => ∀ w : Int32, w = nI a + 4 → I18 w X2 Y2) h nx⟩
      · exact fun _ => ⟨v1, pr_keep (K := fun X2 Y2 => ∀ w : Int32, w = nI a + 4 → I18 w X2 Y2) h (fun X2 i => nx X2 Y i)⟩
      · exact fun _ => ⟨v1, pr_betrayed (K := fun X2 Y2 => ∀ w : Int32, w = nI a + 4 → I18 w X2 Y2) h nx⟩
      · exact fun _ => ⟨v1, pr_opened (K := fun X2 Y2 => ∀ w : Int32, w = nI a + 4 → I18 w X2 Y2) h nx⟩
      · exact fun _ => pr_most (K := fun X2 Y2 => ∀ w : Int32, w = nI a + 4 → I18 w X2 Y2) h nx
      · exact fun _ => pr_fewest (K := fun X2 Y2 => ∀ w : Int32, w = nI a + 4 → I18 w X2 Y2) h nx
      · exact fun _ => pr_wider (K := fun X2 Y2 => ∀ w : Int32, w = nI a + 4 → I18 w X2 Y2) h nx
  exact key L 0 X0 Y0 (by omega) (by omega) inv_0
