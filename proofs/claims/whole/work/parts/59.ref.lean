/-! THE REFERENCE's layout: open places, barred ones, shown names -/
def OpenOK (Z X : XT) : Prop := X 48 46 = nI (min (co (Z 62) (dK Z)) 8) ∧ ∀ i, i < min (co (Z 62) (dK Z)) 8 → ∃ p, p < dK Z ∧ X 74 i = nI p ∧ ¬ Z 62 p = -1 ∧ co (Z 62) p = i
theorem OpenOK.congr {Z X U : XT} (h : OpenOK Z X) (h1 : U 48 46 = X 48 46) (h2 : U 74 = X 74) : OpenOK Z U := by
  unfold OpenOK
  rw [h1, h2]
  exact h
theorem lt0_sh {Z : XT} (h : Inv Z) {p : Nat} (hp : p < dK Z) : (Z 62 p < 0) = (Z 62 p = -1) := by
  apply propext
  rcases i_sh h hp with z | z
  · rw [z]
    decide
  · rw [z.2]
    have := (i_N h).1
    exact ⟨fun g => absurd g (nI_pos (by omega)), fun g => absurd g (nI_ne1 (by omega))⟩
theorem co_mono {sh : Nat → Int32} {i j : Nat} (h : i ≤ j) : co sh i ≤ co sh j := by
  induction j with
  | zero =>
    have : i = 0 := by omega
    subst this
    exact Nat.le_refl _
  | succ j ih =>
    by_cases e : i = j + 1
    · rw [e]
      exact Nat.le_refl _
    · have := ih (by omega)
      rw [co_s]
      omega
section REF
variable {Z X : XT} {Y : YT} {Q : Int32 → XT → YT → Prop} {QV : XT → YT → Prop} {ps bs v : Nat}
theorem s_findOpen (h : Inv Z) (c : FR Z X) (hq : ∀ U : XT, FR Z U → (∀ q, q ≠ 48 → q ≠ 74 → U q = X q) → (∀ j, j ≠ 46 → U 48 j = X 48 j) → OpenOK Z U → QV U Y) : PX10_findOpen X Y QV := by
  intro I7 h7
  have hk := i_K h
  unfold BX10_findOpen_s
  refine dn (n := dK Z) (P := fun k => ∀ U : XT, FR Z U → (∀ q, q ≠ 48 → q ≠ 74 → U q = X q) → (∀ j, j ≠ 46 → U 48 j = X 48 j) → U 48 46 = nI (co (Z 62) k) → co (Z 62) k ≤ 8 → (∀ i, i < co (Z 62) k → ∃ p, p < dK Z ∧ U 74 i = nI p ∧ ¬ Z 62 p = -1 ∧ co (Z 62) p = i) → I7 (nI k) U Y) ?_ ?_ 0 (by omega) (sX X 48 46 0) (c.set48 (by omega)) (fun q h1 _ => sX_ne h1) (fun j hj => by rw [sX_eq]; unfold upd; rw [if_neg hj]) (by rw [sX_eq]; simp [upd]; rfl) (by simp [co]) (fun i hi => absurd hi (by simp [co]))
  · intro U cU u1 u2 u3 u4 u5
    apply h7
    unfold BX10_findOpen_7
    rw [cU.2 16 (by omega), hk.2, le_nI (by omega) (by omega)]
    refine ⟨fun _ => hq U cU u1 u2 ⟨?_, ?_⟩, fun g => absurd (by omega) g⟩
    · rw [u3, Nat.min_eq_left u4]
    · rw [Nat.min_eq_left u4]
      exact u5
  · intro k hkk ih U cU u1 u2 u3 u4 u5
    apply h7
    unfold BX10_findOpen_7
    rw [cU.2 16 (by omega), hk.2, le_nI (by omega) (by omega), u3, show (8 : Int32) = nI 8 from rfl, le_nI (by omega) (by omega), cl_nI (show k < 2147483648 by omega), cU.hi (by omega) (by omega), lt0_sh h hkk, cl_nI (by omega)]
    refine ⟨fun g => absurd g (by omega), fun _ => ⟨fun g => hq U cU u1 u2 ?_, fun g => ⟨vp_in_nI (by omega) (by omega), fun g2 w hw => ?_, fun g2 => ⟨vp_in_nI (by omega) (by omega), fun X6 e6 w hw => ?_⟩⟩⟩⟩
    · have := co_mono (sh := Z 62) (show k ≤ dK Z by omega)
      have e : min (co (Z 62) (dK Z)) 8 = co (Z 62) k := by omega
      unfold OpenOK
      rw [e]
      exact ⟨u3, u5⟩
    · rw [hw, nI_1]
      have e : co (Z 62) (k + 1) = co (Z 62) k := by rw [co_s, if_pos g2]; omega
      refine ih U cU u1 u2 (by rw [e]; exact u3) (by omega) (by rw [e]; exact u5)
    · have e46 : (sX U 74 (co (Z 62) k) (nI k)) 48 46 = nI (co (Z 62) k) := by rw [sX_ne (by decide)]; exact u3
      rw [e46, nI_1] at e6
      rw [hw, nI_1]
      have e : co (Z 62) (k + 1) = co (Z 62) k + 1 := by rw [co_s, if_neg g2]
      refine ih X6 ?_ (fun q h1 h2 => ?_) (fun j hj => ?_) ?_ (by omega) (fun i hi => ?_)
      · rw [e6]
        exact (cU.set (by omega)).set48 (by omega)
      · rw [e6, sX_ne h1, sX_ne h2]
        exact u1 q h1 h2
      · rw [e6, sX_eq, sX_ne (by decide)]
        unfold upd
        rw [if_neg hj]
        exact u2 j hj
      · rw [e6, sX_eq, e]
        simp [upd]
      · rw [e6, sX_ne (by decide), sX_eq]
        unfold upd
        by_cases ei : i = co (Z 62) k
        · rw [if_pos ei]
          exact ⟨k, hkk, rfl, g2, ei.symm⟩
        · rw [if_neg ei]
          exact u5 i (by omega)
theorem s_isBarred (h : Inv Z) (c : FR Z X) (ho : OpenOK Z X) (hb : bs < 2147483648) (e38 : X 48 38 = nI bs) {p : Nat} (hp : p < dK Z) (hop : ¬ Z 62 p = -1) (hq : Q (bI (hidB Z bs p = true)) X Y) : PX10_isBarred (nI p) X Y Q := by
  intro I4 h4
  have hk := i_K h
  unfold BX10_isBarred_s
  have o8 : min (co (Z 62) (dK Z)) 8 ≤ 8 := by omega
  have fin : (hidB Z bs p = true) ↔ ∃ i, i < min (co (Z 62) (dK Z)) 8 ∧ X 74 i = nI p ∧ bs.testBit i = true := by
    unfold hidB
    rw [Bool.or_eq_true, Bool.and_eq_true, decide_eq_true_iff, decide_eq_true_iff]
    constructor
    · rintro (z | ⟨z1, z2⟩)
      · exact absurd z hop
      · have hlt : co (Z 62) p < co (Z 62) (dK Z) := co_lt hop hp
        have hi : co (Z 62) p < min (co (Z 62) (dK Z)) 8 := by omega
        obtain ⟨p', q1, q2, q3, q4⟩ := ho.2 _ hi
        have := co_inj q3 hop q4
        subst this
        exact ⟨co (Z 62) p', hi, q2, z2⟩
    · rintro ⟨i, z1, z2, z3⟩
      obtain ⟨p', q1, q2, q3, q4⟩ := ho.2 i z1
      rw [z2, eq_nI (by omega) (by omega)] at q2
      subst q2
      rw [q4]
      exact Or.inr ⟨by omega, z3⟩
  have step : ∀ k, (∃ i, i < k + 1 ∧ X 74 i = nI p ∧ bs.testBit i = true) ↔ ((∃ i, i < k ∧ X 74 i = nI p ∧ bs.testBit i = true) ∨ (X 74 k = nI p ∧ bs.testBit k = true)) := by
    intro k
    constructor
    · rintro ⟨i, z1, z2, z3⟩
      by_cases e : i = k
      · subst e
        exact Or.inr ⟨z2, z3⟩
      · exact Or.inl ⟨i, by omega, z2, z3⟩
    · rintro (⟨i, z1, z2, z3⟩ | ⟨z2, z3⟩)
      · exact ⟨i, by omega, z2, z3⟩
      · exact ⟨k, by omega, z2, z3⟩
  refine dn (n := min (co (Z 62) (dK Z)) 8) (P := fun k => ∀ a2 : Int32, ((a2 = 1 ∧ ∃ i, i < k ∧ X 74 i = nI p ∧ bs.testBit i = true) ∨ (a2 = 0 ∧ ¬ ∃ i, i < k ∧ X 74 i = nI p ∧ bs.testBit i = true)) → I4 (nI p) a2 (nI k) X Y) ?_ ?_ 0 (by omega) 0 (Or.inr ⟨rfl, fun ⟨i, hi, _⟩ => absurd hi (by omega)⟩)
  · intro a2 ha
    apply h4
    unfold BX10_isBarred_4
    rw [ho.1, le_nI (by omega) (by omega)]
    refine ⟨fun _ => ?_, fun g => absurd (by omega) g⟩
    rcases ha with ⟨e, z⟩ | ⟨e, z⟩
    · subst e
      rw [bI_t (fin.mpr z)] at hq
      exact ⟨rfl, hq⟩
    · subst e
      rw [bI_f (fun y => z (fin.mp y))] at hq
      exact ⟨rfl, hq⟩
  · intro k hkk ih a2 ha
    apply h4
    unfold BX10_isBarred_4
    rw [ho.1, le_nI (by omega) (by omega), cl_nI (by omega), e38, bx_bit1 hb (by omega)]
    refine ⟨fun g => absurd g (by omega), fun _ => ⟨fun g w hw => ?_, fun g => ⟨vp_in_nI (by omega) (by omega), fun g2 w hw => ?_, fun g2 => ⟨fun g3 w hw => ?_, fun g3 w hw => ?_⟩⟩⟩⟩
    · rw [hw, nI_1]
      refine ih 1 (Or.inl ⟨rfl, (step k).mpr (Or.inl ?_)⟩)
      rcases ha with ⟨e, z⟩ | ⟨e, z⟩
      · exact z
      · exact absurd e g
    · rw [hw, nI_1]
      refine ih 0 (Or.inr ⟨rfl, fun y => ?_⟩)
      rcases ha with ⟨e, z⟩ | ⟨e, z⟩
      · rw [e] at g
        exact absurd g (by decide)
      · rcases (step k).mp y with y | y
        · exact z y
        · exact g2 y.1
    · rw [hw, nI_1]
      refine ih 0 (Or.inr ⟨rfl, fun y => ?_⟩)
      rcases ha with ⟨e, z⟩ | ⟨e, z⟩
      · rw [e] at g
        exact absurd g (by decide)
      · rcases (step k).mp y with y | y
        · exact z y
        · exact g3 y.2
    · rw [hw, nI_1]
      exact ih 1 (Or.inl ⟨rfl, (step k).mpr (Or.inr ⟨g2, g3⟩)⟩)
theorem s_findShown (h : Inv Z) (c : FR Z X) (ho : OpenOK Z X) (hb : bs < 2147483648) (e38 : X 48 38 = nI bs) (hq : ∀ U : XT, (∀ q, q ≠ 77 → U q = X q) → (∀ g, g < 8 → U 77 g = nI (shm Z bs g (dK Z))) → QV U Y) : PX10_findShown X Y QV := by
  intro I2 I23 h2 h23
  have hk := i_K h
  have hP := i_P h
  have hN := i_N h
  unfold BX10_findShown_s
  have main : ∀ U : XT, (∀ q, q ≠ 77 → U q = X q) → (∀ g, g < 8 → U 77 g = 0) → I23 0 U Y := by
    intro U u1 u2
    refine dn (n := dK Z) (P := fun k => ∀ U : XT, (∀ q, q ≠ 77 → U q = X q) → (∀ g, g < 8 → U 77 g = nI (shm Z bs g k)) → I23 (nI k) U Y) ?_ ?_ 0 (by omega) U u1 (fun g hg => u2 g hg)
    · intro U u1 u2
      apply h23
      unfold BX10_findShown_23
      rw [u1 48 (by decide), c.2 16 (by omega), hk.2, le_nI (by omega) (by omega)]
      exact ⟨fun _ => hq U u1 u2, fun g => absurd (by omega) g⟩
    · intro k hkk ih U u1 u2
      apply h23
      unfold BX10_findShown_23
      have cU : FR Z U := c.trans (FR.only [77] (by intro q hq; simp at hq; omega) (fun q hq => u1 q (by simpa using hq)))
      have hpg := i_pg h hkk
      rw [u1 48 (by decide), c.2 16 (by omega), hk.2, le_nI (by omega) (by omega), cl_nI (by omega), cU.hi (show 48 < 60 by omega) (by omega), cU.hi (show 48 < 62 by omega) (by omega), hpg.2, cl_nI (show cl Z 60 k < 2147483648 by omega), lt0_sh h hkk, u2 _ (by omega)]
      have no : hidB Z bs k = true → ∀ W : XT, W = U → ∀ X3 : XT, X3 = sX W 77 (cl Z 60 k) (nI (shm Z bs (cl Z 60 k) k) ||| 0) → ∀ w : Int32, w = nI k + 1 → I23 w X3 Y := by
        intro hh W eW X3 e3 w hw
        subst eW
        rw [hw, nI_1, e3, Int32.or_zero]
        refine ih _ (fun q hq => by rw [sX_ne hq]; exact u1 q hq) (fun j hj => ?_)
        rw [sX_eq, shm_s, if_neg (fun z => by rw [hh] at z; cases z.2), Nat.or_zero]
        unfold upd
        by_cases e : j = cl Z 60 k
        · rw [if_pos e, e]
        · rw [if_neg e, u2 j hj]
      refine ⟨fun g => absurd g (by omega), fun _ => ⟨vp_in_nI (by omega) (by omega), vp_in_nI (by omega) (by omega), vp_in_nI (by omega) (by omega), fun g => ⟨vp_in_nI (by omega) (by omega), no (by unfold hidB; simp [g]) U rfl⟩, fun g => ?_⟩⟩
      refine s_isBarred h cU (ho.congr (by rw [u1 48 (by decide)]) (u1 74 (by decide))) hb (by rw [u1 48 (by decide)]; exact e38) hkk g ?_
      simp only [bI_0]
      refine ⟨fun g2 => ⟨vp_in_nI (by omega) (by omega), no (Classical.not_not.mp g2) U rfl⟩, fun g2 => ⟨vp_in_nI (by omega) (by omega), vp_in_nI (by omega) (by omega), fun X16 e16 w hw => ?_⟩⟩
      have hsh : cl Z 62 k < dN Z ∧ Z 62 k = nI (cl Z 62 k) := (i_sh h hkk).resolve_left g
      have g3 : hidB Z bs k = false := by cases hh : hidB Z bs k with
        | false => rfl
        | true => exact absurd hh g2
      rw [cU.hi (show 48 < 62 by omega) (by omega), hsh.2, bx_1shl (by omega), bx_or] at e16
      rw [hw, nI_1, e16]
      refine ih _ (fun q hq => by rw [sX_ne hq]; exact u1 q hq) (fun j hj => ?_)
      rw [sX_eq, shm_s]
      unfold upd
      by_cases e : j = cl Z 60 k
      · rw [if_pos e, if_pos ⟨e.symm, g3⟩, e]
      · rw [if_neg e, if_neg (fun z => e z.1.symm), Nat.or_zero, u2 j hj]
  refine dn (n := 8) (P := fun k => ∀ U : XT, (∀ q, q ≠ 77 → U q = X q) → (∀ g, g < k → U 77 g = 0) → I2 (nI k) U Y) ?_ ?_ 0 (by omega) X (fun _ _ => rfl) (fun g hg => absurd hg (by omega))
  · intro U u1 u2
    apply h2
    unfold BX10_findShown_2
    exact ⟨fun _ => main U u1 u2, fun g => absurd (by decide) g⟩
  · intro k hkk ih U u1 u2
    apply h2
    unfold BX10_findShown_2
    rw [show (8 : Int32) = nI 8 from rfl, le_nI (by omega) (by omega)]
    refine ⟨fun g => absurd g (by omega), fun _ => ⟨vp_in_nI (by omega) (by omega), fun w hw => ?_⟩⟩
    rw [hw, nI_1, cl_nI (by omega)]
    refine ih _ (fun q hq => by rw [sX_ne hq]; exact u1 q hq) (fun j hj => ?_)
    rw [sX_eq]
    unfold upd
    by_cases e : j = k
    · rw [if_pos e]
    · rw [if_neg e]
      exact u2 j (by omega)
end REF
