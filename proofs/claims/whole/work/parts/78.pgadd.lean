/-! page: the class and the reference add the places -/
def CA (Z1 : XT) (P K O B : Nat) (oc sh wd : Nat → Int32) (j : Nat) (U : XT) : Prop :=
  (∀ q, q ≠ 13 → q ≠ 16 → q ≠ 17 → q ≠ 18 → q ≠ 19 → q ≠ 20 → q ≠ 21 → q ≠ 22 → U q = Z1 q) ∧ (∀ f, f ≠ 11 → f ≠ 12 → f ≠ 13 → U 13 f = Z1 13 f) ∧ U 13 11 = nI (K + j) ∧ U 13 12 = nI (O + co sh j) ∧ U 13 13 = nI (B + cb sh j) ∧
  U 16 = itr (Z1 16) (fun _ => nI P) K j ∧ U 17 = itr (Z1 17) oc K j ∧ U 18 = itr (Z1 18) sh K j ∧ U 19 = itr (Z1 19) (gO sh O) K j ∧ U 20 = itr (Z1 20) (gB sh B) K j ∧ U 21 = itr (Z1 21) wd K j ∧ U 22 = itp (Z1 22) sh B K j
def RB (Z1 : XT) (P K B : Nat) (oc sh wd : Nat → Int32) (j : Nat) (U : XT) : Prop :=
  (∀ q, q ≠ 48 → q ≠ 60 → q ≠ 61 → q ≠ 62 → q ≠ 63 → q ≠ 64 → q ≠ 65 → U q = Z1 q) ∧ (∀ f, f ≠ 16 → f ≠ 22 → U 48 f = Z1 48 f) ∧ U 48 16 = nI (K + j) ∧ U 48 22 = nI (B + cb sh j) ∧
  U 60 = itr (Z1 60) (fun _ => nI P) K j ∧ U 61 = itr (Z1 61) oc K j ∧ U 62 = itr (Z1 62) sh K j ∧ U 63 = itr (Z1 63) (gB sh B) K j ∧ U 64 = itr (Z1 64) wd K j ∧ U 65 = itp (Z1 65) sh B K j
section PGADD
variable {Z1 X U : XT} {Y : YT} {Q : Int32 → XT → YT → Prop} {QV : XT → YT → Prop} {P K O B k nb N j : Nat} {oc sh wd : Nat → Int32}
theorem s_addPlace (c : CA Z1 P K O B oc sh wd j U) (hP : Z1 13 10 = nI P) (hK : K + j < 32) (hB : sh j = -1 → B + cb sh j < 10) (hB2 : B + cb sh j < 100) (hq : ∀ W, CA Z1 P K O B oc sh wd (j + 1) W → QV W Y) : PX3_addPlace (oc j) (sh j) (wd j) U Y QV := by
  obtain ⟨c1, c2, c3, c4, c5, c6, c7, c8, c9, c10, c11, c12⟩ := c
  unfold PX3_addPlace BX3_addPlace_s
  intro w1 e1
  rw [c3] at e1
  subst e1
  rw [cl_nI (by omega), c3, nI_1]
  refine ⟨vp_in_nI hK (by omega), fun X3 e3 => ⟨vp_in_nI hK (by omega), vp_in_nI hK (by omega), fun X5 e5 => ⟨vp_in_nI hK (by omega), vp_in_nI hK (by omega), fun X7 e7 => ⟨vp_in_nI hK (by omega), ?_⟩⟩⟩⟩
  obtain ⟨V, eV⟩ : ∃ V, V = sX X7 20 (K + j) (-1) := ⟨_, rfl⟩
  rw [← eV]
  have v1 : ∀ q, q ≠ 13 → q ≠ 16 → q ≠ 17 → q ≠ 18 → q ≠ 19 → q ≠ 20 → q ≠ 21 → q ≠ 22 → V q = Z1 q := fun q a1 a2 a3 a4 a5 a6 a7 a8 => by
    rw [eV, sX_ne a6, e7, sX_ne a5, sX_ne a7, e5, sX_ne a4, sX_ne a3, e3, sX_ne a2, sX_ne a1]
    exact c1 q a1 a2 a3 a4 a5 a6 a7 a8
  have v13 : V 13 = upd (U 13) 11 (nI (K + j + 1)) := by
    subst e3 e5 e7
    rw [eV]
    rfl
  have v16 : V 16 = upd (U 16) (K + j) (nI P) := by
    have : U 13 10 = nI P := by rw [c2 10 (by decide) (by decide) (by decide)]; exact hP
    rw [← this]
    subst e3 e5 e7
    rw [eV]
    rfl
  have v17 : V 17 = upd (U 17) (K + j) (oc j) := by
    subst e3 e5 e7
    rw [eV]
    rfl
  have v18 : V 18 = upd (U 18) (K + j) (sh j) := by
    subst e3 e5 e7
    rw [eV]
    rfl
  have v19 : V 19 = upd (U 19) (K + j) (-1) := by
    subst e3 e5 e7
    rw [eV]
    rfl
  have v20 : V 20 = upd (U 20) (K + j) (-1) := by
    subst e3 e5 e7
    rw [eV]
    rfl
  have v21 : V 21 = upd (U 21) (K + j) (wd j) := by
    subst e3 e5 e7
    rw [eV]
    rfl
  have v22 : V 22 = U 22 := by
    subst e3 e5 e7
    rw [eV]
    rfl
  have w13 : V 13 13 = nI (B + cb sh j) := by rw [v13, pk_un (by decide)]; exact c5
  have w12 : V 13 12 = nI (O + co sh j) := by rw [v13, pk_un (by decide)]; exact c4
  have w11 : V 13 11 = nI (K + j + 1) := by rw [v13, pk_us]
  refine ⟨fun g => ?_, fun g => ⟨vp_in_nI hK (by omega), fun X15 e15 => ?_⟩⟩
  · have hb := hB g
    rw [w13, show (10 : Int32) = nI 10 from rfl, le_nI (by omega) (by omega)]
    refine ⟨fun y => absurd y (by omega), fun _ => ⟨vp_in_nI hK (by omega), fun X11 e11 => ?_⟩⟩
    have x13 : X11 13 13 = nI (B + cb sh j) := by rw [e11, sX_ne (by decide)]; exact w13
    rw [x13, cl_nI (by omega)]
    refine ⟨vp_in_nI hb (by omega), fun X13 e13 => hq X13 ?_⟩
    have y13 : sX X11 22 (B + cb sh j) (nI (K + j)) 13 13 = nI (B + cb sh j) := by rw [sX_ne (by decide)]; exact x13
    rw [y13, nI_1] at e13
    have z13 : X13 13 = upd (V 13) 13 (nI (B + cb sh j + 1)) := by rw [e13, sX_eq, sX_ne (by decide), e11, sX_ne (by decide)]
    refine ⟨fun q a1 a2 a3 a4 a5 a6 a7 a8 => ?_, fun f f1 f2 f3 => ?_, ?_, ?_, ?_, ?_, ?_, ?_, ?_, ?_, ?_, ?_⟩
    · rw [e13, sX_ne a1, sX_ne a8, e11, sX_ne a6]
      exact v1 q a1 a2 a3 a4 a5 a6 a7 a8
    · rw [z13, pk_un f3, v13, pk_un f1]
      exact c2 f f1 f2 f3
    · rw [z13, pk_un (by decide)]
      exact w11
    · rw [z13, pk_un (by decide), w12, pco_s, if_pos g]
      rfl
    · rw [z13, pk_us, pcb_s, if_pos g]
      rfl
    · rw [e13, sX_ne (by decide), sX_ne (by decide), e11, sX_ne (by decide), v16, c6]
      rfl
    · rw [e13, sX_ne (by decide), sX_ne (by decide), e11, sX_ne (by decide), v17, c7]
      rfl
    · rw [e13, sX_ne (by decide), sX_ne (by decide), e11, sX_ne (by decide), v18, c8]
      rfl
    · rw [e13, sX_ne (by decide), sX_ne (by decide), e11, sX_ne (by decide), v19, c9]
      show _ = upd _ (K + j) (if sh j = -1 then -1 else nI (O + co sh j))
      rw [if_pos g]
    · rw [e13, sX_ne (by decide), sX_ne (by decide), e11, sX_eq, v20, c10, pu_pu]
      show _ = upd _ (K + j) (if sh j = -1 then nI (B + cb sh j) else -1)
      rw [if_pos g]
    · rw [e13, sX_ne (by decide), sX_ne (by decide), e11, sX_ne (by decide), v21, c11]
      rfl
    · rw [e13, sX_ne (by decide), sX_eq, e11, sX_ne (by decide), v22, c12]
      show _ = if sh j = -1 then upd (itp (Z1 22) sh B K j) (B + cb sh j) (nI (K + j)) else itp (Z1 22) sh B K j
      rw [if_pos g]
  · rw [w12] at e15
    have x12 : X15 13 12 = nI (O + co sh j) := by rw [e15, sX_ne (by decide)]; exact w12
    rw [x12, nI_1]
    have z13 : sX X15 13 12 (nI (O + co sh j + 1)) 13 = upd (V 13) 12 (nI (O + co sh j + 1)) := by rw [sX_eq, e15, sX_ne (by decide)]
    refine hq _ ⟨fun q a1 a2 a3 a4 a5 a6 a7 a8 => ?_, fun f f1 f2 f3 => ?_, ?_, ?_, ?_, ?_, ?_, ?_, ?_, ?_, ?_, ?_⟩
    · rw [sX_ne a1, e15, sX_ne a5]
      exact v1 q a1 a2 a3 a4 a5 a6 a7 a8
    · rw [z13, pk_un f2, v13, pk_un f1]
      exact c2 f f1 f2 f3
    · rw [z13, pk_un (by decide)]
      exact w11
    · rw [z13, pk_us, pco_s, if_neg g]
      rfl
    · rw [z13, pk_un (by decide), w13, pcb_s, if_neg g]
      rfl
    · rw [sX_ne (by decide), e15, sX_ne (by decide), v16, c6]
      rfl
    · rw [sX_ne (by decide), e15, sX_ne (by decide), v17, c7]
      rfl
    · rw [sX_ne (by decide), e15, sX_ne (by decide), v18, c8]
      rfl
    · rw [sX_ne (by decide), e15, sX_eq, v19, c9, pu_pu]
      show _ = upd _ (K + j) (if sh j = -1 then -1 else nI (O + co sh j))
      rw [if_neg g]
    · rw [sX_ne (by decide), e15, sX_ne (by decide), v20, c10]
      show _ = upd _ (K + j) (if sh j = -1 then nI (B + cb sh j) else -1)
      rw [if_neg g]
    · rw [sX_ne (by decide), e15, sX_ne (by decide), v21, c11]
      rfl
    · rw [sX_ne (by decide), e15, sX_ne (by decide), v22, c12]
      show _ = if sh j = -1 then upd (itp (Z1 22) sh B K j) (B + cb sh j) (nI (K + j)) else itp (Z1 22) sh B K j
      rw [if_neg g]
theorem cb_ok (ok : OKp N B k nb oc sh wd) (hj : j < k) : (sh j = -1 → B + cb sh j < 10) ∧ B + cb sh j < 100 := by
  have mono : ∀ d, cb sh (j + 1) ≤ cb sh (j + 1 + d) := by
    intro d
    induction d with
    | zero => exact Nat.le_refl _
    | succ d ihd =>
      have e : cb sh (j + 1 + (d + 1)) = cb sh (j + 1 + d) + if sh (j + 1 + d) = -1 then 1 else 0 := rfl
      rw [e]
      omega
  have m1 := mono (k - (j + 1))
  rw [show j + 1 + (k - (j + 1)) = k by omega] at m1
  have h4 := ok.2.2.2.1
  have h5 := ok.2.2.2.2.1
  have e : cb sh (j + 1) = cb sh j + if sh j = -1 then 1 else 0 := rfl
  refine ⟨fun y => ?_, by omega⟩
  rw [e, if_pos y] at m1
  omega
theorem s_addAll (hP8 : P < 8) (hP : X 13 10 = nI P) (hK : K ≤ 4 * P) (h11 : X 13 11 = nI K) (h12 : X 13 12 = nI O) (h13 : X 13 13 = nI B) (ok : OKp N B k nb oc sh wd) (hk : X 24 10 = nI k) (hA : ∀ k', k' < k → X 25 k' = oc k' ∧ X 26 k' = sh k' ∧ X 27 k' = wd k')
    (hq : ∀ W, CA (sX (sX X 14 P (X 24 8)) 15 P (X 24 9)) P K O B oc sh wd k W → QV (sX W 13 10 (nI (P + 1))) Y) : PX3_add X Y QV := by
  intro I38 h38
  have hk4 := ok.2.2.2.2.2
  unfold BX3_add_s
  have e10 : sX X 14 P (X 24 8) 13 10 = nI P := by rw [sX_ne (by decide)]; exact hP
  have e9 : sX X 14 P (X 24 8) 24 9 = X 24 9 := by rw [sX_ne (by decide)]
  rw [hP, cl_nI (by omega), e10, cl_nI (by omega), e9, i_lt, show (8 : Int32) = nI 8 from rfl, le_nI (by omega) (by omega)]
  refine ⟨fun _ => ⟨vp_in_nI hP8 (by omega), vp_in_nI hP8 (by omega), fun X2 e2 => ?_⟩, fun y => absurd (by omega) y⟩
  rw [← e2] at hq
  have p2 : X2 13 10 = nI P := by rw [e2, sX_ne (by decide)]; exact e10
  have key : ∀ d j U, j + d = k → CA X2 P K O B oc sh wd j U → I38 (nI j) U Y := by
    intro d
    induction d with
    | zero =>
      intro j U hj c
      have hj : j = k := by omega
      subst hj
      have k10 : U 24 10 = nI j := by rw [c.1 24 (by decide) (by decide) (by decide) (by decide) (by decide) (by decide) (by decide) (by decide), e2, sX_ne (by decide), sX_ne (by decide)]; exact hk
      have q10 : U 13 10 = nI P := by rw [c.2.1 10 (by decide) (by decide) (by decide)]; exact p2
      apply h38
      unfold BX3_add_38
      rw [k10, le_nI (by omega) (by omega), q10, nI_1]
      exact ⟨fun _ => hq U c, fun y => absurd (Nat.le_refl _) y⟩
    | succ d ih =>
      intro j U hj c
      have k10 : U 24 10 = nI k := by rw [c.1 24 (by decide) (by decide) (by decide) (by decide) (by decide) (by decide) (by decide) (by decide), e2, sX_ne (by decide), sX_ne (by decide)]; exact hk
      have k25 : U 25 = X 25 := by rw [c.1 25 (by decide) (by decide) (by decide) (by decide) (by decide) (by decide) (by decide) (by decide), e2, sX_ne (by decide), sX_ne (by decide)]
      have k26 : U 26 = X 26 := by rw [c.1 26 (by decide) (by decide) (by decide) (by decide) (by decide) (by decide) (by decide) (by decide), e2, sX_ne (by decide), sX_ne (by decide)]
      have k27 : U 27 = X 27 := by rw [c.1 27 (by decide) (by decide) (by decide) (by decide) (by decide) (by decide) (by decide) (by decide), e2, sX_ne (by decide), sX_ne (by decide)]
      obtain ⟨a1, a2, a3⟩ := hA j (by omega)
      apply h38
      unfold BX3_add_38
      rw [k10, le_nI (by omega) (by omega), c.2.2.1, show (4 : Int32) = nI 4 from rfl, le_nI (by omega) (by omega), show (32 : Int32) = nI 32 from rfl, le_nI (by omega) (by omega), cl_nI (by omega), k25, k26, k27, a1, a2, a3]
      refine ⟨fun y => absurd y (by omega), fun _ => ⟨fun y => absurd y (by omega), fun _ => ⟨fun y => absurd y (by omega), fun _ => ⟨vp_in_nI (by omega) (by omega), vp_in_nI (by omega) (by omega), vp_in_nI (by omega) (by omega), ?_⟩⟩⟩⟩
      refine s_addPlace c p2 (by omega) (cb_ok ok (by omega)).1 (cb_ok ok (by omega)).2 (fun W cW w8 e8 => ?_)
      rw [e8, nI_1]
      exact ih (j + 1) W (by omega) cW
  refine key k 0 X2 (by omega) ⟨fun q _ _ _ _ _ _ _ _ => rfl, fun f _ _ _ => rfl, ?_, ?_, ?_, rfl, rfl, rfl, rfl, rfl, rfl, rfl⟩
  · rw [e2, sX_ne (by decide), sX_ne (by decide)]; exact h11
  · rw [e2, sX_ne (by decide), sX_ne (by decide)]; exact h12
  · rw [e2, sX_ne (by decide), sX_ne (by decide)]; exact h13
end PGADD
