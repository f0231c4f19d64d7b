/-! fits -/
def dwAt (Z : XT) (p : Nat) : Nat := if Z 62 p = -1 then cl Z 64 p else dW Z (cl Z 59 (cl Z 60 p)) (cl Z 62 p)
def wdB (Z : XT) (w f v n : Nat) : Bool := decide (w ≤ dW Z f n + v ∧ dW Z f n ≤ w + v)
def svB (Z : XT) (o d n : Nat) : Bool := (cl Z 52 n).testBit o && decide (cl Z 53 n ≤ d ∧ d ≤ cl Z 54 n)
def fitB (Z : XT) (v p n : Nat) : Bool := wdB Z (dwAt Z p) (cl Z 59 (cl Z 60 p)) v n && svB Z (cl Z 61 p) (cl Z 58 (cl Z 60 p)) n
def fitM (Z : XT) (v p : Nat) : Nat := mk (fitB Z v p) (dN Z)
theorem mk_and (p q : Nat → Bool) (n : Nat) : mk p n &&& mk q n = mk (fun i => p i && q i) n := by
  apply Nat.eq_of_testBit_eq
  intro i
  rw [Nat.testBit_and, mk_bit, mk_bit, mk_bit]
  cases decide (i < n) <;> simp
theorem mk_set {p : Nat → Bool} {n : Nat} (h : p n = true) : mk p n ||| 2 ^ n = mk p (n + 1) := by simp [mk, h]
theorem mk_not {p : Nat → Bool} {n : Nat} (h : p n = false) : mk p n = mk p (n + 1) := by simp [mk, h]
theorem sb_le {w v d : Nat} (hw : w < 1000) (hv : v < 1000) (hd : d < 1000) : (nI w - nI v ≤ nI d) = (w ≤ d + v) := by
  rw [Int32.le_iff_toInt_le, pk_sub_toInt (by omega) (by omega), nI_toInt (by omega)]
  apply propext
  omega
theorem sb_ge {w v d : Nat} (hw : w < 1000) (hv : v < 1000) (hd : d < 1000) : (0 - nI v ≤ nI d - nI w) = (w ≤ d + v) := by
  rw [show (0 : Int32) = nI 0 from rfl, Int32.le_iff_toInt_le, pk_sub_toInt (by omega) (by omega), pk_sub_toInt (by omega) (by omega)]
  apply propext
  omega
section FITS
variable {Z X : XT} {Y : YT} {Q : Int32 → XT → YT → Prop} {QV : XT → YT → Prop} {K : XT → YT → Prop} {a b : Int32}
theorem i_dw (h : Inv Z) {p : Nat} (hp : p < dK Z) : dwAt Z p < 241 ∧ wAt Z p = nI (dwAt Z p) := by
  have h1 := i_pg h hp
  have h2 := i_fo h h1.1
  unfold dwAt wAt
  rcases i_sh h hp with g | g
  · rw [if_pos g, if_pos g]
    have := i_bw h hp
    exact ⟨by omega, this.2⟩
  · have hn := (i_N h).1
    have e : ¬ Z 62 p = -1 := by rw [g.2]; exact nI_ne1 (by omega)
    rw [if_neg e, if_neg e]
    exact i_W h h2.1
theorem wAt_FR (c : FR Z X) {p : Nat} : wAt X p = wAt Z p := by
  unfold wAt
  rw [c.hi (q := 62) (by omega) (by omega), c.hi (q := 64) (by omega) (by omega), c.hi (q := 49) (by omega) (by omega), c.hi (q := 50) (by omega) (by omega), c.hi (q := 51) (by omega) (by omega), c.hi (q := 59) (by omega) (by omega), c.hi (q := 60) (by omega) (by omega)]
theorem s_wC (h : Inv Z) (c : FR Z X) {p : Nat} (hp : p < dK Z) (hq : Q (nI (dwAt Z p)) X Y) : PX0_widthAt (nI p) X Y Q := by
  have hk := i_K h
  refine s_wAtC (inv_FR h c) (KK := dK Z) (by rw [c.2 16 (by omega)]; exact hk.2) hk.1 hp ?_
  rw [wAt_FR c, (i_dw h hp).2]
  exact hq
theorem s_wM (h : Inv Z) (c : FR Z X) {p : Nat} (hp : p < dK Z) (hq : Q (nI (dwAt Z p)) X Y) : PX10_wideAt (nI p) X Y Q := by
  have hk := i_K h
  refine s_wAtM (inv_FR h c) (KK := dK Z) (by rw [c.2 16 (by omega)]; exact hk.2) hk.1 hp ?_
  rw [wAt_FR c, (i_dw h hp).2]
  exact hq
theorem s_asWide (h : Inv Z) (c : FR Z X) {w f v : Nat} (hw : w < 241) (hf : f < 2) (hv : v < 10) (hq : Q (nI (mk (wdB Z w f v) (dN Z))) X Y) : PX1_asWideAs (nI w) (nI f) (nI v) X Y Q := by
  intro I6 h6
  have hN := i_N h
  unfold BX1_asWideAs_s
  have e9 : X 3 9 = nI (dN Z) := by rw [c.lo (by omega), c_n h]; exact hN.2
  have key : ∀ d k, k + d = dN Z → I6 (nI w) (nI f) (nI v) (nI (mk (wdB Z w f v) k)) (nI k) X Y := by
    intro d
    induction d with
    | zero =>
      intro k hk
      have hk : k = dN Z := by omega
      subst hk
      apply h6
      unfold BX1_asWideAs_6
      rw [e9, le_nI (by omega) (by omega)]
      exact ⟨fun _ => hq, fun g => absurd (by omega) g⟩
    | succ d ih =>
      intro k hk
      apply h6
      unfold BX1_asWideAs_6
      rw [e9, le_nI (by omega) (by omega)]
      refine ⟨fun g => absurd g (by omega), fun _ => ?_⟩
      refine s_widthC (by omega) hf ?_
      rw [c.lo (by omega), i_Wc h hf (by omega), eq_within]
      have hd := (i_W h (n := k) hf).1
      simp only [bI_0]
      rw [nI_add, sb_le (by omega) (by omega) (by omega), le_nI (by omega) (by omega)]
      have hlt := mk_lt (wdB Z w f v) k
      refine ⟨fun g w1 hw1 => ?_, fun g w1 hw1 w2 hw2 => ?_⟩
      · rw [hw1, nI_1, mk_not (by unfold wdB; exact decide_eq_false g)]
        exact ih (k + 1) (by omega)
      · rw [hw1, hw2, nI_1, bx_1shl (by omega), bx_or, mk_set (by unfold wdB; exact decide_eq_true (Classical.not_not.mp g))]
        exact ih (k + 1) (by omega)
  exact key (dN Z) 0 (by omega)
theorem s_serving (h : Inv Z) (c : FR Z X) {o d : Nat} (ho : o < 4) (hd : d < 100) (hq : Q (nI (mk (svB Z o d) (dN Z))) X Y) : PX1_servingOn (nI o) (nI d) X Y Q := by
  intro I5 h5
  have hN := i_N h
  unfold BX1_servingOn_s
  have e9 : X 3 9 = nI (dN Z) := by rw [c.lo (by omega), c_n h]; exact hN.2
  have key : ∀ e k, k + e = dN Z → I5 (nI o) (nI d) (nI (mk (svB Z o d) k)) (nI k) X Y := by
    intro e
    induction e with
    | zero =>
      intro k hk
      have hk : k = dN Z := by omega
      subst hk
      apply h5
      unfold BX1_servingOn_5
      rw [e9, le_nI (by omega) (by omega)]
      exact ⟨fun _ => hq, fun g => absurd (by omega) g⟩
    | succ e ih =>
      intro k hk
      apply h5
      unfold BX1_servingOn_5
      have h1 := i_ho (j := k) h
      have h2 := i_si (j := k) h
      have h3 := i_un (j := k) h
      rw [e9, le_nI (by omega) (by omega), cl_nI (by omega), c.lo (show 8 < 31 by omega), c_8 h, h1.2, eq_has, c.lo (show 9 < 31 by omega), c.lo (show 10 < 31 by omega), c_9 h, c_10 h, h2.2, h3.2, eq_within]
      simp only [bI_0, Classical.not_not]
      rw [bx_bit0 (by omega) (by omega), le_nI (by omega) (by omega), le_nI (by omega) (by omega)]
      refine ⟨fun g => absurd g (by omega), fun _ => ⟨vp_in_nI (by omega) (by omega), fun g w1 hw1 => ?_, fun g => ⟨vp_in_nI (by omega) (by omega), vp_in_nI (by omega) (by omega), fun g2 w1 hw1 => ?_, fun g2 w1 hw1 w2 hw2 => ?_⟩⟩⟩
      · rw [hw1, nI_1, mk_not (by unfold svB; rw [g]; rfl)]
        exact ih (k + 1) (by omega)
      · rw [hw1, nI_1, mk_not (by unfold svB; rw [decide_eq_false g2, Bool.and_false])]
        exact ih (k + 1) (by omega)
      · have g' : (cl Z 52 k).testBit o = true := by cases hh : (cl Z 52 k).testBit o with
          | true => rfl
          | false => exact absurd hh g
        rw [hw1, hw2, nI_1, bx_1shl (by omega), bx_or, mk_set (by unfold svB; rw [g', decide_eq_true g2]; rfl)]
        exact ih (k + 1) (by omega)
  exact key (dN Z) 0 (by omega)
theorem s_fitting (h : Inv Z) (c : FR Z X) {p v : Nat} (hp : p < dK Z) (hv : v < 10) (hq : Q (nI (fitM Z v p)) X Y) : PX0_fittingAt (nI p) (nI v) X Y Q := by
  have hk := i_K h
  have h1 := i_pg h hp
  have hP := i_P h
  have h2 := i_fo h h1.1
  have h3 := i_oc h hp
  have h4 := i_dy h h1.1
  unfold PX0_fittingAt BX0_fittingAt_s
  refine ⟨vp_in_nI (by omega) (by omega), fun w hw => ?_⟩
  rw [cl_nI (by omega), c.lo (by omega), c_16 h, h1.2] at hw
  subst hw
  refine s_wC h c hp ⟨vp_in_nI (by omega) (by omega), ?_⟩
  rw [cl_nI (by omega), c.lo (by omega), c_15 h, h2.2]
  refine s_asWide h c (i_dw h hp).1 h2.1 hv ⟨vp_in_nI (by omega) (by omega), vp_in_nI (by omega) (by omega), ?_⟩
  rw [cl_nI (by omega), c.lo (show 17 < 31 by omega), c.lo (show 14 < 31 by omega), c_17 h, c_14 h, h3.2, h4.2]
  refine s_serving h c h3.1 h4.1 ?_
  rw [bx_and, mk_and]
  exact hq
theorem s_measureAll (h : Inv Z) (c : FR Z X) {v : Nat} (hv : v < 10) (hq : ∀ U : XT, (∀ q, q ≠ 36 → U q = X q) → (∀ p, p < dK Z → U 36 p = nI (fitM Z v p)) → QV U Y) : PX0_measure (nI v) X Y QV := by
  intro I2 h2
  have hk := i_K h
  unfold BX0_measure_s
  have key : ∀ d k, k + d = dK Z → ∀ U : XT, (∀ q, q ≠ 36 → U q = X q) → (∀ p, p < k → U 36 p = nI (fitM Z v p)) → I2 (nI v) (nI k) U Y := by
    intro d
    induction d with
    | zero =>
      intro k hkd U g1 g2
      have hkd : k = dK Z := by omega
      subst hkd
      apply h2
      unfold BX0_measure_2
      rw [g1 13 (by decide), c.lo (by omega), c_K h, hk.2, le_nI (by omega) (by omega)]
      exact ⟨fun _ => hq U g1 g2, fun g => absurd (by omega) g⟩
    | succ d ih =>
      intro k hkd U g1 g2
      apply h2
      unfold BX0_measure_2
      rw [g1 13 (by decide), c.lo (by omega), c_K h, hk.2, le_nI (by omega) (by omega)]
      have cU : FR Z U := c.trans (FR.only [36] (by intro q hq; simp at hq; omega) (fun q hq => g1 q (by simpa using hq)))
      refine ⟨fun g => absurd g (by omega), fun _ => s_fitting h cU (by omega) hv ⟨vp_in_nI (by omega) (by omega), fun w hw => ?_⟩⟩
      rw [hw, nI_1, cl_nI (by omega)]
      refine ih (k + 1) (by omega) _ (fun q hq => ?_) (fun p hp => ?_)
      · rw [sX_ne hq]
        exact g1 q hq
      · rw [sX_eq]
        unfold upd
        by_cases e : p = k
        · rw [if_pos e, e]
        · rw [if_neg e]
          exact g2 p (by omega)
  exact key (dK Z) 0 (by omega) X (fun q _ => rfl) (fun p hp => absurd hp (by omega))
theorem s_fitsAt (h : Inv Z) (c : FR Z X) {n p v : Nat} (hn : n < dN Z) (hp : p < dK Z) (hv : v < 10) (ha : X 48 41 = nI v) (hq : Q (bI (fitB Z v p n = true)) X Y) : PX10_fitsAt (nI n) (nI p) X Y Q := by
  have hN := i_N h
  have hk := i_K h
  have h1 := i_pg h hp
  have hP := i_P h
  have h2 := i_fo h h1.1
  have h3 := i_oc h hp
  have h4 := i_dy h h1.1
  have h5 := i_ho (j := n) h
  have h6 := i_si (j := n) h
  have h7 := i_un (j := n) h
  unfold PX10_fitsAt BX10_fitsAt_s
  rw [cl_nI (show p < 2147483648 by omega), c.hi (show 48 < 60 by omega) (by omega), h1.2, cl_nI (show cl Z 60 p < 2147483648 by omega), c.hi (show 48 < 59 by omega) (by omega), h2.2]
  obtain ⟨n1, n2, n3, n4, N', n5, n6, n7, n8, n9, n10, n11⟩ := id h.2.2.2.2.1
  refine ⟨vp_in_nI (by omega) (by omega), vp_in_nI (by omega) (by omega), s_widthM (by omega) h2.1 (by rw [c.hi (show 48 < 50 by omega) (by omega)]; exact n8) (by rw [c.hi (show 48 < 51 by omega) (by omega)]; exact n9) ?_⟩
  rw [c.hi (show 48 < 49 by omega) (by omega), c.hi (show 48 < 50 by omega) (by omega), c.hi (show 48 < 51 by omega) (by omega)]
  have hW := i_W h (n := n) h2.1
  have hD := i_dw h hp
  rw [hW.2]
  refine s_wM h c hp (fun w hw => ?_)
  subst hw
  rw [ha, eq_in3, cl_nI (show n < 2147483648 by omega), c.hi (show 48 < 52 by omega) (by omega), c.hi (show 48 < 53 by omega) (by omega), c.hi (show 48 < 54 by omega) (by omega), c.hi (show 48 < 61 by omega) (by omega), c.hi (show 48 < 60 by omega) (by omega), c.hi (show 48 < 58 by omega) (by omega), h1.2, cl_nI (show cl Z 60 p < 2147483648 by omega), h3.2, h4.2, h5.2, h6.2, h7.2, eq_in3]
  simp only [bI_0, Classical.not_not]
  rw [sb_ge (by omega) (by omega) (by omega), sb_le (by omega) (by omega) (by omega), bx_bit1 (by omega) (by omega), le_nI (by omega) (by omega), le_nI (by omega) (by omega)]
  have fb : fitB Z v p n = true ↔ (dwAt Z p ≤ dW Z (cl Z 59 (cl Z 60 p)) n + v ∧ dW Z (cl Z 59 (cl Z 60 p)) n ≤ v + dwAt Z p) ∧ (cl Z 52 n).testBit (cl Z 61 p) = true ∧ (cl Z 53 n ≤ cl Z 58 (cl Z 60 p) ∧ cl Z 58 (cl Z 60 p) ≤ cl Z 54 n) := by
    unfold fitB wdB svB
    rw [Bool.and_eq_true, Bool.and_eq_true, decide_eq_true_iff, decide_eq_true_iff, Nat.add_comm v]
  refine ⟨fun g => ?_, fun g => ⟨vp_in_nI (by omega) (by omega), vp_in_nI (by omega) (by omega), fun g2 => ?_, fun g2 => ⟨vp_in_nI (by omega) (by omega), vp_in_nI (by omega) (by omega), vp_in_nI (by omega) (by omega), vp_in_nI (by omega) (by omega), fun g3 => ?_, fun g3 => ?_⟩⟩⟩
  · rw [bI_f (fun z => g (fb.mp z).1)] at hq
    exact hq
  · rw [bI_f (fun z => g2 (fb.mp z).2.1)] at hq
    exact hq
  · rw [bI_f (fun z => g3 (fb.mp z).2.2)] at hq
    exact hq
  · rw [bI_t (fb.mpr ⟨g, g2, g3⟩)] at hq
    exact hq
/-- begin: what is laid before every search -/
theorem s_begin (h : Inv Z) (c : FR Z X) (hq : ∀ U : XT, FR Z U → U 48 37 = nI (2 ^ dP Z - 1) → U 48 38 = 0 → U 48 39 = 0 → U 48 41 = nI (cl Z 48 9) → U 48 53 = -1 → U 48 54 = -1 → (∀ b, b < 10 → U 71 b = -1) → (∀ q, q ≠ 48 → q ≠ 71 → U q = X q) → QV U Y) : PX10_begin X Y QV := by
  intro I42 h42
  have hP := i_P h
  have hS := i_sl h
  unfold BX10_begin_s
  intro X1 e1 X3 e3
  rw [c.2 13 (by omega), hP.2, bx_below (by omega)] at e1
  subst e1
  have e9 : (sX (sX (sX X 48 37 (nI (2 ^ dP Z - 1))) 48 38 0) 48 39 0) 48 9 = nI (cl Z 48 9) := by
    simp only [sX_eq, upd]
    rw [if_neg (by decide), if_neg (by decide), if_neg (by decide), c.2 9 (by omega)]
    exact hS.2
  rw [e9] at e3
  subst e3
  have key : ∀ d k, k + d = 10 → ∀ U : XT, FR Z U → U 48 37 = nI (2 ^ dP Z - 1) → U 48 38 = 0 → U 48 39 = 0 → U 48 41 = nI (cl Z 48 9) → U 48 53 = -1 → U 48 54 = -1 → (∀ b, b < k → U 71 b = -1) → (∀ q, q ≠ 48 → q ≠ 71 → U q = X q) → I42 (nI k) U Y := by
    intro d
    induction d with
    | zero =>
      intro k hk U c1 g1 g2 g3 g4 g5 g6 g7 g8
      have hk : k = 10 := by omega
      subst hk
      apply h42
      unfold BX10_begin_42
      exact ⟨fun _ => hq U c1 g1 g2 g3 g4 g5 g6 g7 g8, fun g => absurd (by decide) g⟩
    | succ d ih =>
      intro k hk U c1 g1 g2 g3 g4 g5 g6 g7 g8
      apply h42
      unfold BX10_begin_42
      rw [show (10 : Int32) = nI 10 from rfl, le_nI (by omega) (by omega)]
      refine ⟨fun g => absurd g (by omega), fun _ => ⟨vp_in_nI (by omega) (by omega), fun w hw => ?_⟩⟩
      rw [hw, nI_1, cl_nI (by omega)]
      have e48 : sX U 71 k (-1) 48 = U 48 := sX_ne (by decide)
      refine ih (k + 1) (by omega) _ (c1.set (by omega)) (by rw [e48]; exact g1) (by rw [e48]; exact g2) (by rw [e48]; exact g3) (by rw [e48]; exact g4) (by rw [e48]; exact g5) (by rw [e48]; exact g6) (fun b hb => ?_) (fun q h1 h2 => by rw [sX_ne h2]; exact g8 q h1 h2)
      rw [sX_eq]
      unfold upd
      by_cases e : b = k
      · rw [if_pos e]
      · rw [if_neg e]
        exact g7 b (by omega)
  refine key 10 0 (by omega) _ ((((((c.set48 (by omega)).set48 (by omega)).set48 (by omega)).set48 (by omega)).set48 (by omega)).set48 (by omega)) ?_ ?_ ?_ ?_ ?_ ?_ (fun b hb => absurd hb (by omega)) (fun q h1 _ => by rw [sX_ne h1, sX_ne h1, sX_ne h1, sX_ne h1, sX_ne h1, sX_ne h1]) <;> simp [sX_eq, upd]
theorem pr_fits (h : Inv X) (hK : ∀ X2, Inv X2 → K X2 Y) : PX9_fits a X Y (fun r X1 Y1 => PX10_fits a X1 Y1 (Kq K r)) := by
  have hB := i_B h
  have hN := i_N h
  have hS := i_sl h
  unfold PX9_fits BX9_fits_s
  rw [eq_isBar, c_B h, hB.2.1]
  simp only [bI_0, Classical.not_not]
  refine ⟨fun hc => ?_, fun hc => ?_⟩
  · intro I20 h20
    unfold BX10_fits_s
    rw [eq_noBar, hB.2.1]
    simp only [bI_0, Classical.not_not]
    exact ⟨fun g => absurd g hc, fun _ => kq rfl (hK _ h)⟩
  · obtain ⟨j, hj, rfl⟩ := kn_of (N := dB X) (by omega) hc
    have hp := i_po h hj
    refine ⟨vp_in_nI (by omega) (by omega), ?_⟩
    rw [cl_nI (by omega), c_22 h, hp.2.1, c_sl h, hS.2]
    refine s_fitting h FR.refl hp.1 (by omega) ?_
    intro I20 h20
    unfold BX10_fits_s
    rw [eq_noBar, hB.2.1]
    simp only [bI_0, Classical.not_not]
    refine ⟨fun _ => s_begin h FR.refl ?_, fun g => absurd hc g⟩
    intro U cU u1 u2 u3 u4 u5 u6 u7 u8
    have key : ∀ d k, k + d = dN X → I20 (nI j) (nI (mk (fitB X (cl X 48 9) (cl X 65 j)) k)) (nI k) U Y := by
      intro d
      induction d with
      | zero =>
        intro k hk
        have hk : k = dN X := by omega
        subst hk
        apply h20
        unfold BX10_fits_20
        rw [cU.2 1 (by omega), hN.2, le_nI (by omega) (by omega)]
        exact ⟨fun _ => kq rfl (hK _ (inv_FR h cU)), fun g => absurd (by omega) g⟩
      | succ d ih =>
        intro k hk
        apply h20
        unfold BX10_fits_20
        rw [cU.2 1 (by omega), hN.2, le_nI (by omega) (by omega), cl_nI (by omega), cU.hi (show 48 < 65 by omega) (by omega), hp.2.1]
        refine ⟨fun g => absurd g (by omega), fun _ => ⟨vp_in_nI (by omega) (by omega), s_fitsAt h cU (by omega) hp.1 (by omega) u4 ?_⟩⟩
        rw [eq_one]
        intro w hw w2 hw2
        rw [hw2, nI_1, hw]
        cases hb : fitB X (cl X 48 9) (cl X 65 j) k with
        | false =>
          have e : bI (¬ bI (false = true) = 0) <<< (nI k &&& 31) = 0 := by
            rw [show bI (¬ bI (false = true) = 0) = 0 by decide]
            simp
          rw [e, Int32.or_zero, mk_not hb]
          exact ih (k + 1) (by omega)
        | true =>
          rw [show bI (¬ bI (true = true) = 0) = 1 by decide, bx_1shl (by omega), bx_or, mk_set hb]
          exact ih (k + 1) (by omega)
    exact key (dN X) 0 (by omega)
end FITS
