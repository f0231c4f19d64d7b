/-! what both say of a search: join, posOf, betrayedNow -/
def told (m : Nat) (rs : List (Nat → Nat)) : Nat := orM (fun s => if onesI (nI (tMay s rs)) 20 = 1 then tMay s rs else 0) m
theorem told_s (m : Nat) (rs : List (Nat → Nat)) : told (m + 1) rs = told m rs ||| (if onesI (nI (tMay m rs)) 20 = 1 then tMay m rs else 0) := rfl
section SAY
variable {Z X : XT} {Y : YT} {Q : Int32 → XT → YT → Prop} {QV : XT → YT → Prop} {rd w m : Nat} {rs : List (Nat → Nat)}
theorem s_told (hm : m ≤ 18) (hr : ∀ s, s < m → tMay s rs < 1024) (e : ∀ s, s < m → X 41 s = nI (tMay s rs)) (hq : Q (nI (told m rs)) X Y) : PX7_toldNames (nI m) X Y Q := by
  intro I4 h4
  unfold BX7_toldNames_4 at h4
  unfold BX7_toldNames_s
  refine dn (n := m) (P := fun k => I4 (nI m) (nI (told k rs)) (nI k) X Y) ?_ ?_ 0 (by omega)
  · apply h4
    rw [le_nI (by omega) (by omega)]
    exact ⟨fun _ => hq, fun g => absurd (by omega) g⟩
  · intro k hk ih
    apply h4
    rw [le_nI (by omega) (by omega), show (18 : Int32) = nI 18 from rfl, le_nI (by omega) (by omega), cl_nI (by omega), e k hk, eq_bitCount, bc_ones _ (hr k hk)]
    refine ⟨fun g => absurd g (by omega), fun _ => ⟨fun g => absurd g (by omega), fun _ => ⟨vp_in_nI (by omega) (by omega), fun g w1 e1 w2 e2 => ?_, fun g => ⟨vp_in_nI (by omega) (by omega), fun w1 e1 w2 e2 => ?_⟩⟩⟩⟩
    · rw [e2, nI_1, e1, Int32.or_zero]
      rw [told_s, if_neg g, Nat.or_zero] at ih
      exact ih
    · rw [e2, nI_1, e1, e k hk, bx_or]
      rw [told_s, if_pos g] at ih
      exact ih
theorem s_betC (h : Inv Z) (c : FR Z X) (hm : m ≤ 18) (e31 : X 31 3 = nI m) (hr : ∀ s, s < m → tMay s rs < 1024) (e : ∀ s, s < m → X 41 s = nI (tMay s rs)) (hq : Q (nI (told m rs &&& cl Z 48 10)) X Y) : PX9_betrayedNow X Y Q := by
  unfold PX9_betrayedNow BX9_betrayedNow_s
  rw [e31]
  refine s_told hm hr e ?_
  rw [c.lo (by omega), c_kp h, (i_kp h).2, bx_and]
  exact hq
theorem s_betM (h : Inv Z) (c : FR Z X) (hm : m ≤ 18) (e43 : X 48 43 = nI m) (e : ∀ s, s < m → X 75 s = nI (tMay s rs)) (hq : Q (nI (told m rs &&& cl Z 48 10)) X Y) : PX10_betrayedNow X Y Q := by
  intro I4 h4
  unfold BX10_betrayedNow_s
  refine dn (n := m) (P := fun k => I4 (nI (told k rs)) (nI k) X Y) ?_ ?_ 0 (by omega)
  · apply h4
    unfold BX10_betrayedNow_4
    rw [e43, le_nI (by omega) (by omega), c.2 10 (by omega), (i_kp h).2, bx_and]
    exact ⟨fun _ => hq, fun g => absurd (by omega) g⟩
  · intro k hk ih
    apply h4
    unfold BX10_betrayedNow_4
    rw [e43, le_nI (by omega) (by omega), cl_nI (by omega), e k hk]
    refine ⟨fun g => absurd g (by omega), fun _ => ⟨vp_in_nI (by omega) (by omega), s_ones ?_⟩⟩
    refine ⟨fun g w1 e1 w2 e2 => ?_, fun g => ⟨vp_in_nI (by omega) (by omega), fun w1 e1 w2 e2 => ?_⟩⟩
    · rw [e2, nI_1, e1, Int32.or_zero]
      rw [told_s, if_neg g, Nat.or_zero] at ih
      exact ih
    · rw [e2, nI_1, e1, e k hk, bx_or]
      rw [told_s, if_pos g] at ih
      exact ih
theorem s_posOf (h : Inv Z) (c : FR Z X) (rl : RLd Z (pA Z) 0 X) {b : Nat} (hb : b < dB Z) (hq : Q (nI b) X Y) : PX10_posOf (nI b) X Y Q := by
  intro I2 h2
  have hB := i_B h
  have hK := i_K h
  unfold BX10_posOf_s
  have n43 := rl.1
  rw [nslA h] at n43
  have at_ : ∀ s, s < dB Z → X 63 (pls Z (pA Z) 0 s) = nI s := fun s hs => (barS_iff h c (by omega) (by rw [nslA h]; exact hs)).mpr (isBarA h hs)
  refine dn (n := b) (P := fun k => I2 (nI b) (nI k) X Y) ?_ ?_ 0 (by omega)
  · apply h2
    unfold BX10_posOf_2
    have a := plsA h hb
    rw [n43, le_nI (by omega) (by omega), cl_nI (by omega), rl.2.1 b (by rw [nslA h]; exact hb), cl_nI (by omega), at_ b hb]
    exact ⟨fun g => absurd g (by omega), fun _ => ⟨vp_in_nI (by omega) (by omega), vp_in_nI (by omega) (by omega), fun g => absurd rfl g, fun _ => hq⟩⟩
  · intro k hk ih
    apply h2
    unfold BX10_posOf_2
    have a := plsA h (show k < dB Z by omega)
    rw [n43, le_nI (by omega) (by omega), cl_nI (by omega), rl.2.1 k (by rw [nslA h]; omega), cl_nI (by omega), at_ k (by omega), eq_nI (by omega) (by omega)]
    refine ⟨fun g => absurd g (by omega), fun _ => ⟨vp_in_nI (by omega) (by omega), vp_in_nI (by omega) (by omega), fun g w1 e1 => ?_, fun g => absurd g (by omega)⟩⟩
    rw [e1, nI_1]
    exact ih
/-- readers together: who is away, what must stand -/
theorem s_join (h : Inv Z) (c : FR Z X) (hrd : rd < 16) (e39 : X 48 39 = 0) (e71 : ∀ b, b < 10 → X 71 b = -1) (hq : ∀ (U : XT) (aw : Nat) (mu : Nat → Int32), FR Z U → (∀ j, j ≠ 39 → U 48 j = X 48 j) → Jn Z rd 4 aw mu → U 48 39 = nI aw → (∀ b, b < 10 → U 71 b = mu b) → QV U Y) : PX10_join (nI rd) X Y QV := by
  intro I2 I33 h2 h33
  have hB := i_B h
  have hN := i_N h
  unfold BX10_join_s
  refine dn (n := 4) (P := fun k => ∀ (A : XT) (aw : Nat) (mu : Nat → Int32), FR Z A → (∀ j, j ≠ 39 → A 48 j = X 48 j) → Jn Z rd k aw mu → A 48 39 = nI aw → (∀ b, b < 10 → A 71 b = mu b) → I2 (nI rd) (nI k) A Y) ?_ ?_ 0 (by omega) X 0 (fun _ => -1) c (fun _ _ => rfl) ?_ e39 e71
  · intro A aw mu a1 a2 a3 a4 a5
    apply h2
    unfold BX10_join_2
    exact ⟨fun _ => hq A aw mu a1 a2 a3 a4 a5, fun g => absurd (by decide) g⟩
  · intro k hk ih A aw mu a1 a2 a3 a4 a5
    apply h2
    unfold BX10_join_2
    have ha := i_aw (j := k) h
    rw [show (4 : Int32) = nI 4 from rfl, le_nI (by omega) (by omega), bx_bit1 (by omega) (by omega), cl_nI (by omega), a1.1 78 (by omega) (by omega) (by omega), ha.2, a4, bx_or]
    refine ⟨fun g => absurd g (by omega), fun _ => ⟨fun g w1 e1 => ?_, fun g => ⟨vp_in_nI (by omega) (by omega), fun X5 e5 => ?_⟩⟩⟩
    · rw [e1, nI_1]
      refine ih A aw mu a1 a2 ⟨a3.1, fun n => (a3.2.1 n).trans ⟨fun ⟨r, z1, z2⟩ => ⟨r, by omega, z2⟩, fun ⟨r, z1, z2, z3⟩ => ⟨r, ?_, z2, z3⟩⟩, fun b hb n hn => (a3.2.2 b hb n hn).trans ⟨fun z r hr hbit => ?_, fun z r hr => z r (by omega)⟩⟩ a4 a5
      · have : r ≠ k := fun e => by rw [e] at z2; exact g z2
        omega
      · have : r ≠ k := fun e => by rw [e] at hbit; exact g hbit
        exact z r (by omega) hbit
    · -- the bars, one by one
      have jaw : aw ||| cl Z 78 k < 2 ^ dN Z := Nat.or_lt_two_pow a3.1 ha.1
      have jbit : ∀ n, (aw ||| cl Z 78 k).testBit n = true ↔ ∃ r, r < k + 1 ∧ rd.testBit r = true ∧ (cl Z 78 r).testBit n = true := by
        intro n
        rw [Nat.testBit_or, Bool.or_eq_true, a3.2.1 n]
        constructor
        · rintro (⟨r, z1, z2⟩ | z)
          · exact ⟨r, by omega, z2⟩
          · exact ⟨k, by omega, g, z⟩
        · rintro ⟨r, z1, z2, z3⟩
          by_cases e : r = k
          · subst e
            exact Or.inr z3
          · exact Or.inl ⟨r, by omega, z2, z3⟩
      refine dn (n := dB Z) (P := fun i => ∀ (A : XT) (mu : Nat → Int32), FR Z A → (∀ j, j ≠ 39 → A 48 j = X 48 j) → A 48 39 = nI (aw ||| cl Z 78 k) → (∀ b, b < 10 → A 71 b = mu b) → (∀ b, b < dB Z → ∀ n, n < dN Z → ((mu b = -1 ∨ mu b = nI n) ↔ (∀ r, r < k → rd.testBit r = true → (Z 79 (10 * r + b) = -1 ∨ Z 79 (10 * r + b) = nI n)) ∧ (b < i → Z 79 (10 * k + b) = -1 ∨ Z 79 (10 * k + b) = nI n))) → I33 (nI rd) (nI k) (nI i) A Y) ?_ ?_ 0 (by omega) X5 mu (by rw [e5]; exact a1.set48 (by omega)) (fun j hj => ?_) ?_ ?_ (fun b hb n hn => ?_)
      · intro A mu b1 b2 b3 b4 b5
        apply h33
        unfold BX10_join_33
        rw [b1.2 22 (by omega), hB.2.1, le_nI (by omega) (by omega)]
        refine ⟨fun _ w1 e1 => ?_, fun z => absurd (by omega) z⟩
        rw [e1, nI_1]
        refine ih A _ mu b1 b2 ⟨jaw, jbit, fun b hb n hn => (b5 b hb n hn).trans ⟨fun z r hr hbit => ?_, fun z => ⟨fun r hr => z r (by omega), fun _ => z k (by omega) g⟩⟩⟩ b3 b4
        by_cases e : r = k
        · rw [e]
          exact z.2 hb
        · exact z.1 r (by omega) hbit
      · intro i hi ihi A mu b1 b2 b3 b4 b5
        apply h33
        unfold BX10_join_33
        rw [b1.2 22 (by omega), hB.2.1, le_nI (by omega) (by omega), mul10', cl_nI (by omega), cl_nI (by omega), b1.1 79 (by omega) (by omega) (by omega), b4 i (by omega)]
        have go : ∀ y : Int32, (∀ n, n < dN Z → ((y = -1 ∨ y = nI n) ↔ (mu i = -1 ∨ mu i = nI n) ∧ (Z 79 (10 * k + i) = -1 ∨ Z 79 (10 * k + i) = nI n))) → ∀ w1 : Int32, w1 = nI i + 1 → I33 (nI rd) (nI k) w1 (sX A 71 i y) Y := by
          intro y hy w1 e1
          rw [e1, nI_1]
          refine ihi _ (upd mu i y) (b1.set (by omega)) (fun j hj => by rw [sX_ne (by decide)]; exact b2 j hj) (by rw [sX_ne (by decide)]; exact b3) (fun b hb => ?_) (fun b hb n hn => ?_)
          · rw [sX_eq]
            unfold upd
            by_cases e : b = i
            · rw [if_pos e, if_pos e]
            · rw [if_neg e, if_neg e]
              exact b4 b hb
          · unfold upd
            by_cases e : b = i
            · rw [if_pos e, hy n hn, e, b5 i hi n hn]
              exact ⟨fun z => ⟨z.1.1, fun _ => z.2⟩, fun z => ⟨⟨z.1, fun y => absurd y (by omega)⟩, z.2 (by omega)⟩⟩
            · rw [if_neg e, b5 b hb n hn]
              exact ⟨fun z => ⟨z.1, fun y => z.2 (by omega)⟩, fun z => ⟨z.1, fun y => z.2 (by omega)⟩⟩
        refine ⟨fun z => absurd z (by omega), fun _ => ⟨vp_in_nI (by omega) (by omega), fun w4 e4 => ?_⟩⟩
        subst e4
        have kn := i_kn h (show 10 * k + i < 40 by omega)
        refine ⟨fun g0 => ⟨vp_in_nI (by omega) (by omega), ?_⟩, fun g0 => ⟨vp_in_nI (by omega) (by omega), vp_in_nI (by omega) (by omega), fun X15 e15 w1 e1 => ?_⟩⟩
        · have kn' : cl Z 79 (10 * k + i) < dN Z ∧ Z 79 (10 * k + i) = nI (cl Z 79 (10 * k + i)) := by
            rcases kn with z | z
            · rw [z] at g0
              exact absurd g0 (by decide)
            · exact z
          have ne1 : ¬ Z 79 (10 * k + i) = -1 := by rw [kn'.2]; exact nI_ne1 (by omega)
          refine ⟨fun g1 => ⟨vp_in_nI (by omega) (by omega), go _ (fun n hn => ?_)⟩, fun g1 => ⟨vp_in_nI (by omega) (by omega), fun g2 => ⟨vp_in_nI (by omega) (by omega), go _ (fun n hn => ?_)⟩, fun g2 => ⟨vp_in_nI (by omega) (by omega), go _ (fun n hn => ?_)⟩⟩⟩
          · exact ⟨fun z => ⟨Or.inl g1, z⟩, fun z => z.2⟩
          · constructor
            · rintro (z | z)
              · exact absurd z (by decide)
              · have := nI_pos (n := n) (by omega)
                rw [← z] at this
                exact absurd (by decide) this
            · rintro ⟨z1, z2⟩
              rcases z2 with z2 | z2
              · exact absurd z2 ne1
              · rcases z1 with z1 | z1
                · exact absurd z1 g1
                · exact absurd (z1.trans z2.symm) g2
          · rw [g2]
            exact ⟨fun z => ⟨z, z⟩, fun z => z.1⟩
        · rw [e15]
          have kn' : Z 79 (10 * k + i) = -1 := by
            rcases kn with z | z
            · exact z
            · rw [z.2] at g0
              exact absurd (nI_pos' (by omega)) g0
          exact go (mu i) (fun n hn => ⟨fun z => ⟨z, Or.inl kn'⟩, fun z => z.1⟩) w1 e1
      · rw [e5, sX_eq]
        unfold upd
        rw [if_neg hj]
        exact a2 j hj
      · rw [e5, sX_eq]
        simp [upd]
      · rw [e5, sX_ne (by decide)]
        exact a5
      · rw [a3.2.2 b hb n hn]
        exact ⟨fun z => ⟨z, fun y => absurd y (by omega)⟩, fun z => z.1⟩
  · refine ⟨Nat.two_pow_pos _, fun n => ?_, fun b _ n _ => ?_⟩
    · simp
    · simp
/-- begin and goThrough, readers or none -/
theorem s_goM0 (h : Inv Z) (c : FR Z X) (hq : ∀ ret U V, EndM Z (pA Z) 0 3000 (-1) (srA Z (cl Z 48 9) 0 3000).1 (srA Z (cl Z 48 9) 0 3000).2 ret U V → Q ret U V) : PX10_begin X Y (fun X2 Y3 => PX10_goThrough X2 Y3 Q) := by
  refine s_begin h c (fun U cU u37 u38 u39 u41 u53 u54 u71 _ => ?_)
  have hA := pA_lt h
  exact s_goM (mu := fun _ => -1) h (by have := (i_sl h).1; omega) (by omega) (by omega) (show 0 < 2147483648 by omega) (by omega) (Or.inl ⟨rfl, by omega⟩) ((Jn.none (Z := Z)).al h) ⟨cU, u37, u38, u39, u41, u71⟩ u53 u54 hq
theorem s_goMJ (h : Inv Z) (c : FR Z X) (hrd : rd < 16) (hq : ∀ ret U V, EndM Z (pA Z) 0 3000 (-1) (srA Z (cl Z 48 9) rd 3000).1 (srA Z (cl Z 48 9) rd 3000).2 ret U V → Q ret U V) : PX10_begin X Y (fun X2 Y3 => PX10_join (nI rd) X2 Y3 (fun X4 Y5 => PX10_goThrough X4 Y5 Q)) := by
  refine s_begin h c (fun U cU u37 u38 u39 u41 u53 u54 u71 _ => ?_)
  have hA := pA_lt h
  have hN := (i_N h).1
  refine s_join h cU hrd u39 u71 (fun W aw mu cW w1 jn w39 w71 => ?_)
  have := pow_le_1024 hN jn.1
  exact s_goM h (by have := (i_sl h).1; omega) (by omega) (by omega) (by omega) (by omega) (Or.inl ⟨rfl, by omega⟩) (jn.al h) ⟨cW, by rw [w1 37 (by decide)]; exact u37, by rw [w1 38 (by decide)]; exact u38, w39, by rw [w1 41 (by decide)]; exact u41, w71⟩ (by rw [w1 53 (by decide)]; exact u53) (by rw [w1 54 (by decide)]; exact u54) hq
end SAY
