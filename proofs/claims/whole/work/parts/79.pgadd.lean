/-! page: the reference adds the places -/
section PGADD2
variable {Z1 X U : XT} {Y : YT} {Q : Int32 → XT → YT → Prop} {P K B k nb N j : Nat} {oc sh wd : Nat → Int32}
variable {I111 : Int32 → XT → YT → Prop} {I138 : Int32 → Int32 → Int32 → XT → YT → Prop} {I220 : Int32 → Int32 → XT → YT → Prop} {I211 : Int32 → Int32 → Int32 → XT → YT → Prop} {I167 : Int32 → Int32 → XT → YT → Prop} {I168 : Int32 → Int32 → Int32 → XT → YT → Prop} {I263 : Int32 → XT → YT → Prop} {I359 : Int32 → Int32 → Int32 → XT → YT → Prop}
theorem r_addAll (h263 : ∀ a5 X Y, BX10_page_263 I111 I138 I220 I211 I167 I168 I263 I359 Q a5 X Y → I263 a5 X Y) (h359 : ∀ a5 t0 t1 X Y, BX10_page_359 I111 I138 I220 I211 I167 I168 I263 I359 Q a5 t0 t1 X Y → I359 a5 t0 t1 X Y)
    (hN : N ≤ 10) (hP8 : P < 8) (hP : Z1 48 13 = nI P) (hK : K ≤ 4 * P) (h16 : Z1 48 16 = nI K) (h22 : Z1 48 22 = nI B) (ok : OKp N B k nb oc sh wd) (hk : Z1 48 32 = nI k) (hA : ∀ k', k' < k → Z1 68 k' = oc k' ∧ Z1 69 k' = sh k' ∧ Z1 70 k' = wd k')
    (hq : ∀ W, RB Z1 P K B oc sh wd k W → Q (nI P) (sX W 48 13 (nI (P + 1))) Y) : I263 0 Z1 Y := by
  have hk4 := ok.2.2.2.2.2
  have key : ∀ d j U, j + d = k → RB Z1 P K B oc sh wd j U → I263 (nI j) U Y := by
    intro d
    induction d with
    | zero =>
      intro j U hj c
      have hj : j = k := by omega
      subst hj
      have k32 : U 48 32 = nI j := by rw [c.2.1 32 (by decide) (by decide)]; exact hk
      have k13 : U 48 13 = nI P := by rw [c.2.1 13 (by decide) (by decide)]; exact hP
      apply h263
      unfold BX10_page_263
      rw [k32, k13, nI_1, le_nI (by omega) (by omega), show sX U 48 13 (nI (P + 1)) 48 13 = nI (P + 1) by rw [sX_eq, pk_us], nI_pred]
      exact ⟨fun _ => hq U c, fun y => absurd (Nat.le_refl _) y⟩
    | succ d ih =>
      intro j U hj c
      obtain ⟨c1, c2, c3, c4, c5, c6, c7, c8, c9, c10⟩ := id c
      have k32 : U 48 32 = nI k := by rw [c2 32 (by decide) (by decide)]; exact hk
      have k13 : U 48 13 = nI P := by rw [c2 13 (by decide) (by decide)]; exact hP
      have k68 : U 68 j = oc j := by rw [c1 68 (by decide) (by decide) (by decide) (by decide) (by decide) (by decide) (by decide)]; exact (hA j (by omega)).1
      have k69 : U 69 j = sh j := by rw [c1 69 (by decide) (by decide) (by decide) (by decide) (by decide) (by decide) (by decide)]; exact (hA j (by omega)).2.1
      have k70 : U 70 j = wd j := by rw [c1 70 (by decide) (by decide) (by decide) (by decide) (by decide) (by decide) (by decide)]; exact (hA j (by omega)).2.2
      have hb := cb_ok ok (show j < k by omega)
      have hp : K + j < 32 := by omega
      apply h263
      unfold BX10_page_263
      rw [k32, le_nI (by omega) (by omega), c3, k13, cl_nI (show K + j < 2147483648 by omega), cl_nI (show j < 2147483648 by omega)]
      refine ⟨fun y => absurd y (by omega), fun _ => ⟨vp_in_nI hp (by omega), fun X2 e2 => ?_⟩⟩
      have a2 : X2 48 16 = nI (K + j) := by rw [e2, sX_ne (by decide)]; exact c3
      have b2 : X2 68 j = oc j := by rw [e2, sX_ne (by decide)]; exact k68
      rw [a2, b2, cl_nI (by omega)]
      refine ⟨vp_in_nI (by omega) (by omega), vp_in_nI hp (by omega), fun X4 e4 => ?_⟩
      have a4 : X4 48 16 = nI (K + j) := by rw [e4, sX_ne (by decide)]; exact a2
      have b4 : X4 69 j = sh j := by rw [e4, sX_ne (by decide), e2, sX_ne (by decide)]; exact k69
      rw [a4, b4, cl_nI (by omega)]
      refine ⟨vp_in_nI (by omega) (by omega), vp_in_nI hp (by omega), fun X6 e6 => ?_⟩
      have a6 : X6 48 16 = nI (K + j) := by rw [e6, sX_ne (by decide)]; exact a4
      have b6 : X6 70 j = wd j := by rw [e6, sX_ne (by decide), e4, sX_ne (by decide), e2, sX_ne (by decide)]; exact k70
      rw [a6, b6, cl_nI (by omega)]
      refine ⟨vp_in_nI (by omega) (by omega), vp_in_nI hp (by omega), fun X8 e8 => ?_⟩
      have a8 : X8 48 = U 48 := by rw [e8, sX_ne (by decide), e6, sX_ne (by decide), e4, sX_ne (by decide), e2, sX_ne (by decide)]
      have b8 : X8 69 j = sh j := by rw [e8, sX_ne (by decide), e6, sX_ne (by decide), e4, sX_ne (by decide), e2, sX_ne (by decide)]; exact k69
      have x60 : X8 60 = upd (U 60) (K + j) (nI P) := by rw [e8, sX_ne (by decide), e6, sX_ne (by decide), e4, sX_ne (by decide), e2, sX_eq]
      have x61 : X8 61 = upd (U 61) (K + j) (oc j) := by rw [e8, sX_ne (by decide), e6, sX_ne (by decide), e4, sX_eq, e2, sX_ne (by decide)]
      have x62 : X8 62 = upd (U 62) (K + j) (sh j) := by rw [e8, sX_ne (by decide), e6, sX_eq, e4, sX_ne (by decide), e2, sX_ne (by decide)]
      have x64 : X8 64 = upd (U 64) (K + j) (wd j) := by rw [e8, sX_eq, e6, sX_ne (by decide), e4, sX_ne (by decide), e2, sX_ne (by decide)]
      have xo : ∀ q, q ≠ 60 → q ≠ 61 → q ≠ 62 → q ≠ 64 → X8 q = U q := fun q q1 q2 q3 q4 => by rw [e8, sX_ne q4, e6, sX_ne q3, e4, sX_ne q2, e2, sX_ne q1]
      have f16 : X8 48 16 = nI (K + j) := by rw [a8]; exact c3
      have f22 : X8 48 22 = nI (B + cb sh j) := by rw [a8]; exact c4
      rw [b8, f16, f22]
      refine ⟨vp_in_nI (by omega) (by omega), ?_⟩
      have go : ∀ t0, t0 = gB sh B j → I359 (nI j) t0 (nI (K + j)) X8 Y := by
        intro t0 e0
        have y69 : sX X8 63 (K + j) t0 69 j = sh j := by rw [sX_ne (by decide)]; exact b8
        have y16 : sX X8 63 (K + j) t0 48 16 = nI (K + j) := by rw [sX_ne (by decide)]; exact f16
        have y22 : sX X8 63 (K + j) t0 48 22 = nI (B + cb sh j) := by rw [sX_ne (by decide)]; exact f22
        apply h359
        unfold BX10_page_359
        rw [cl_nI (show K + j < 2147483648 by omega), cl_nI (show j < 2147483648 by omega), y69, y16, y22, nI_1, cl_nI (show B + cb sh j < 2147483648 by omega)]
        refine ⟨vp_in_nI hp (by omega), vp_in_nI (by omega) (by omega), fun g V eV w4 e4 => ?_, fun g => ?_⟩
        · have g1 : ¬ sh j = -1 := fun e => by
            rw [e] at g
            exact absurd g (by decide)
          rw [e4, nI_1]
          refine ih (j + 1) V (by omega) ⟨fun q q0 q1 q2 q3 q4 q5 q6 => ?_, fun f f1 f2 => ?_, ?_, ?_, ?_, ?_, ?_, ?_, ?_, ?_⟩
          · rw [eV, sX_ne q0, sX_ne q4, xo q q1 q2 q3 q5]
            exact c1 q q0 q1 q2 q3 q4 q5 q6
          · rw [eV, sX_eq, pk_un f1, sX_ne (by decide), a8]
            exact c2 f f1 f2
          · rw [eV, sX_eq, pk_us]
            rfl
          · rw [eV, sX_eq, pk_un (by decide), y22, pcb_s, if_neg g1]
            rfl
          · rw [eV, sX_ne (by decide), sX_ne (by decide), x60, c5]
            rfl
          · rw [eV, sX_ne (by decide), sX_ne (by decide), x61, c6]
            rfl
          · rw [eV, sX_ne (by decide), sX_ne (by decide), x62, c7]
            rfl
          · rw [eV, sX_ne (by decide), sX_eq, xo 63 (by decide) (by decide) (by decide) (by decide), c8, e0]
            rfl
          · rw [eV, sX_ne (by decide), sX_ne (by decide), x64, c9]
            rfl
          · rw [eV, sX_ne (by decide), sX_ne (by decide), xo 65 (by decide) (by decide) (by decide) (by decide), c10]
            show _ = if sh j = -1 then upd (itp (Z1 65) sh B K j) (B + cb sh j) (nI (K + j)) else itp (Z1 65) sh B K j
            rw [if_neg g1]
        · have g1 : sh j = -1 := by
            rcases ok.2.1 j (by omega) with e | ⟨n, hn, e⟩
            · exact e
            · rw [e] at g
              exact absurd (nI_pos' (by omega)) g
          refine ⟨vp_in_nI (hb.1 g1) (by omega), fun X6' e6' V eV w10 e10 => ?_⟩
          have z22 : X6' 48 22 = nI (B + cb sh j) := by rw [e6', sX_ne (by decide)]; exact y22
          have z16 : sX X6' 48 22 (nI (B + cb sh j + 1)) 48 16 = nI (K + j) := by rw [sX_eq, pk_un (by decide), e6', sX_ne (by decide)]; exact y16
          rw [z22, nI_1, z16, nI_1] at eV
          rw [e10, nI_1]
          refine ih (j + 1) V (by omega) ⟨fun q q0 q1 q2 q3 q4 q5 q6 => ?_, fun f f1 f2 => ?_, ?_, ?_, ?_, ?_, ?_, ?_, ?_, ?_⟩
          · rw [eV, sX_ne q0, sX_ne q0, e6', sX_ne q6, sX_ne q4, xo q q1 q2 q3 q5]
            exact c1 q q0 q1 q2 q3 q4 q5 q6
          · rw [eV, sX_eq, pk_un f1, sX_eq, pk_un f2, e6', sX_ne (by decide), sX_ne (by decide), a8]
            exact c2 f f1 f2
          · rw [eV, sX_eq, pk_us]
            rfl
          · rw [eV, sX_eq, pk_un (by decide), sX_eq, pk_us, pcb_s, if_pos g1]
            rfl
          · rw [eV, sX_ne (by decide), sX_ne (by decide), e6', sX_ne (by decide), sX_ne (by decide), x60, c5]
            rfl
          · rw [eV, sX_ne (by decide), sX_ne (by decide), e6', sX_ne (by decide), sX_ne (by decide), x61, c6]
            rfl
          · rw [eV, sX_ne (by decide), sX_ne (by decide), e6', sX_ne (by decide), sX_ne (by decide), x62, c7]
            rfl
          · rw [eV, sX_ne (by decide), sX_ne (by decide), e6', sX_ne (by decide), sX_eq, xo 63 (by decide) (by decide) (by decide) (by decide), c8, e0]
            rfl
          · rw [eV, sX_ne (by decide), sX_ne (by decide), e6', sX_ne (by decide), sX_ne (by decide), x64, c9]
            rfl
          · rw [eV, sX_ne (by decide), sX_ne (by decide), e6', sX_eq, sX_ne (by decide), xo 65 (by decide) (by decide) (by decide) (by decide), c10]
            show _ = if sh j = -1 then upd (itp (Z1 65) sh B K j) (B + cb sh j) (nI (K + j)) else itp (Z1 65) sh B K j
            rw [if_pos g1]
      refine ⟨fun g => go _ ?_, fun g => go _ ?_⟩
      · have g1 : ¬ sh j = -1 := fun e => by
          rw [e] at g
          exact absurd g (by decide)
        exact (if_neg g1).symm
      · have g1 : sh j = -1 := by
          rcases ok.2.1 j (by omega) with e | ⟨n, hn, e⟩
          · exact e
          · rw [e] at g
            exact absurd (nI_pos' (by omega)) g
        exact (if_pos g1).symm
  exact key k 0 Z1 (by omega) ⟨fun q _ _ _ _ _ _ _ => rfl, fun f _ _ => rfl, h16, h22, rfl, rfl, rfl, rfl, rfl, rfl⟩
end PGADD2
