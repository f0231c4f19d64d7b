/-! lay: the class's slots -/
def al0 (Z : XT) (v bs p : Nat) : Nat := fitM Z v p ^^^ (fitM Z v p &&& som Z bs (cl Z 60 p) (dK Z))
def twB (Z : XT) (ps bs s t : Nat) : Bool := decide (Z 62 (pls Z ps bs s) = -1) && decide (Z 62 (pls Z ps bs t) = -1) && (cl Z 23 (cb (Z 62) (pls Z ps bs s))).testBit (cb (Z 62) (pls Z ps bs t))
section LAY2
variable {Z X : XT} {Y : YT} {Q : Int32 → XT → YT → Prop} {QV : XT → YT → Prop} {ps bs v : Nat}
theorem s_addSlot {a b : Int32} {s : Nat} (hs : s < 18) (h3 : X 31 3 = nI s) (hq : ∀ U : XT, (∀ q, q ≠ 31 → q ≠ 32 → q ≠ 33 → q ≠ 34 → U q = X q) → U 31 3 = nI (s + 1) → U 32 = upd (X 32) s a → U 33 = upd (X 33) s b → U 34 = upd (X 34) s 0 → QV U Y) : PX6_add a b X Y QV := by
  unfold PX6_add BX6_add_s
  have e1 : (sX X 32 s a) 31 3 = nI s := by rw [sX_ne (by decide)]; exact h3
  rw [h3, show (18 : Int32) = nI 18 from rfl, le_nI (by omega) (by omega), cl_nI (by omega), e1, cl_nI (by omega)]
  refine ⟨fun g => absurd g (by omega), fun _ => ⟨vp_in_nI (by omega) (by omega), vp_in_nI (by omega) (by omega), fun X2 e2 => ?_⟩⟩
  have e3 : X2 31 3 = nI s := by rw [e2, sX_ne (by decide)]; exact e1
  rw [e3, cl_nI (by omega)]
  refine ⟨vp_in_nI (by omega) (by omega), fun X4 e4 => ?_⟩
  have e5 : (sX X2 34 s 0) 31 3 = nI s := by rw [sX_ne (by decide)]; exact e3
  rw [e5, nI_1] at e4
  refine hq X4 (fun q h1 h2 h4 h5 => ?_) ?_ ?_ ?_ ?_
  · rw [e4, sX_ne h1, sX_ne h5, e2, sX_ne h4, sX_ne h2]
  · rw [e4, sX_eq]
    simp [upd]
  · rw [e4, sX_ne (by decide), sX_ne (by decide), e2, sX_ne (by decide), sX_eq]
  · rw [e4, sX_ne (by decide), sX_ne (by decide), e2, sX_eq, sX_ne (by decide)]
  · rw [e4, sX_ne (by decide), sX_eq, e2, sX_ne (by decide), sX_ne (by decide)]
theorem s_note {b : Int32} {s : Nat} (h3 : X 31 3 = nI s) (hb : b = -1 ∨ ∃ j, j < 10 ∧ b = nI j) (hq : ∀ U : XT, (∀ q, q ≠ 38 → U q = X q) → (b = -1 → U 38 = X 38) → (∀ j, j < 10 → b = nI j → U 38 = upd (X 38) j (nI s)) → QV U Y) : PX0_noteSlot b X Y QV := by
  unfold PX0_noteSlot BX0_noteSlot_s
  refine ⟨fun g => hq X (fun _ _ => rfl) (fun _ => rfl) (fun j hj e => ?_), fun g => ?_⟩
  · rw [g] at e
    exact absurd e.symm (nI_ne1 (by omega))
  · rcases hb with z | ⟨j, hj, z⟩
    · exact absurd z g
    · subst z
      rw [cl_nI (by omega), h3]
      refine ⟨vp_in_nI (by omega) (by omega), hq _ (fun q hq => sX_ne hq) (fun z => absurd z g) (fun i hi e => ?_)⟩
      rw [eq_nI (by omega) (by omega)] at e
      subst e
      rw [sX_eq]
theorem laid_bar {p : Nat} (h1 : Z 62 p = -1) : laidB Z ps bs p = ps.testBit (cl Z 60 p) := by
  unfold laidB hidB
  simp [h1]
theorem s_isLaid (h : Inv Z) (c : FR Z X) {b : Nat} (hb : b < dB Z) (hs : ps < 2147483648) (hq : Q (bI (laidB Z ps bs (cl Z 65 b) = true)) X Y) : PX0_isLaid (nI b) (nI ps) X Y Q := by
  have hB := i_B h
  have hk := i_K h
  have hP := i_P h
  have hpo := i_po h hb
  have hpg := i_pg h hpo.1
  unfold PX0_isLaid BX0_isLaid_s
  rw [cl_nI (show b < 2147483648 by omega), c.lo (show 22 < 31 by omega), c_22 h, hpo.2.1, cl_nI (by omega), c.lo (show 16 < 31 by omega), c_16 h, hpg.2, eq_has]
  refine ⟨vp_in_nI (by omega) (by omega), vp_in_nI (by omega) (by omega), bI_nar, ?_⟩
  have e : bI (¬ (nI ps >>> (nI (cl Z 60 (cl Z 65 b)) &&& 31)) &&& 1 = 0) = bI (laidB Z ps bs (cl Z 65 b) = true) := by
    refine bI_congr ?_
    rw [bx_bit0 hs (by omega), laid_bar hpo.2.2.1]
    simp
  rw [e]
  exact hq
/-- which slots the twins tell of, up to the pair (b, c) -/
def twE (Z : XT) (ps bs b c s t : Nat) : Prop := ∃ b' c', c' < b' ∧ b' < dB Z ∧ (b' < b ∨ (b' = b ∧ c' < c)) ∧ (cl Z 23 b').testBit c' = true ∧ laidB Z ps bs (cl Z 65 b') = true ∧ laidB Z ps bs (cl Z 65 c') = true ∧ cnt (laidB Z ps bs) (cl Z 65 b') = s ∧ cnt (laidB Z ps bs) (cl Z 65 c') = t
def twI (Z : XT) (ps bs b c : Nat) (X U : XT) : Prop := (∀ q, q ≠ 34 → U q = X q) ∧ ∃ tm : Nat → Nat, ∀ s, s < nsl Z ps bs → U 34 s = nI (tm s) ∧ tm s < 2 ^ 18 ∧ ∀ t, (tm s).testBit t = true ↔ twE Z ps bs b c s t
theorem twE_end {b s t : Nat} : twE Z ps bs b b s t ↔ twE Z ps bs (b + 1) 0 s t := by
  constructor
  · rintro ⟨b', c', h1, h2, h3, h4⟩
    exact ⟨b', c', h1, h2, by omega, h4⟩
  · rintro ⟨b', c', h1, h2, h3, h4⟩
    exact ⟨b', c', h1, h2, by omega, h4⟩
theorem s_layTwins (h : Inv Z) (c : FR Z X) (hs : ps < 2147483648) (h34 : ∀ s, s < nsl Z ps bs → X 34 s = 0) (h38 : ∀ p, p < dK Z → laidB Z ps bs p = true → Z 62 p = -1 → X 38 (cb (Z 62) p) = nI (cnt (laidB Z ps bs) p)) (hq : ∀ U : XT, twI Z ps bs (dB Z) 0 X U → QV U Y) : PX0_layTwins (nI ps) X Y QV := by
  intro I2 I15 h2 h15
  have hB := i_B h
  have hm := nsl_le (ps := ps) (bs := bs) h
  unfold BX0_layTwins_s
  refine dn (n := dB Z) (P := fun b => ∀ U, twI Z ps bs b 0 X U → I2 (nI ps) (nI b) U Y) ?_ ?_ 0 (by omega) X ⟨fun _ _ => rfl, fun _ => 0, fun s hs => ⟨h34 s hs, Nat.two_pow_pos _, fun t => ?_⟩⟩
  · intro U u
    apply h2
    unfold BX0_layTwins_2
    rw [u.1 13 (by decide), c.lo (by omega), c_B h, hB.2.1, le_nI (by omega) (by omega)]
    exact ⟨fun _ => hq U u, fun g => absurd (by omega) g⟩
  · intro b hb ih U u
    apply h2
    unfold BX0_layTwins_2
    rw [u.1 13 (by decide), c.lo (by omega), c_B h, hB.2.1, le_nI (by omega) (by omega)]
    refine ⟨fun g => absurd g (by omega), fun _ => ?_⟩
    refine dn (n := b) (P := fun k => ∀ U, twI Z ps bs b k X U → I15 (nI ps) (nI b) (nI k) U Y) ?_ ?_ 0 (by omega) U u
    · intro U u
      apply h15
      unfold BX0_layTwins_15
      rw [le_nI (by omega) (by omega)]
      refine ⟨fun _ w hw => ?_, fun g => absurd (by omega) g⟩
      rw [hw, nI_1]
      obtain ⟨u1, tm, u2⟩ := u
      exact ih U ⟨u1, tm, fun s hs => ⟨(u2 s hs).1, (u2 s hs).2.1, fun t => ((u2 s hs).2.2 t).trans twE_end⟩⟩
    · intro k hk ihk U u
      apply h15
      unfold BX0_layTwins_15
      have cU : FR Z U := c.trans (FR.only [34] (by intro q hq; simp at hq; omega) (fun q hq => u.1 q (by simpa using hq)))
      have ht := i_tw (j := b) h
      rw [le_nI (by omega) (by omega), cl_nI (show b < 2147483648 by omega), cU.lo (show 23 < 31 by omega), ht.2, eq_has]
      simp only [bI_0, Classical.not_not]
      rw [bx_bit0 (by omega) (by omega)]
      have no : ¬ ((cl Z 23 b).testBit k = true ∧ laidB Z ps bs (cl Z 65 b) = true ∧ laidB Z ps bs (cl Z 65 k) = true) → ∀ w : Int32, w = nI k + 1 → I15 (nI ps) (nI b) w U Y := by
        intro hn w hw
        rw [hw, nI_1]
        obtain ⟨u1, tm, u2⟩ := u
        refine ihk U ⟨u1, tm, fun s hs => ⟨(u2 s hs).1, (u2 s hs).2.1, fun t => ((u2 s hs).2.2 t).trans ?_⟩⟩
        constructor
        · rintro ⟨b', c', h1, h2, h3, h4⟩
          exact ⟨b', c', h1, h2, by omega, h4⟩
        · rintro ⟨b', c', h1, h2, h3, h4, h5, h6, h7⟩
          refine ⟨b', c', h1, h2, ?_, h4, h5, h6, h7⟩
          rcases h3 with g | ⟨g1, g2⟩
          · exact Or.inl g
          · refine Or.inr ⟨g1, ?_⟩
            rcases Nat.lt_or_ge c' k with g | g
            · exact g
            · have e : c' = k := by omega
              subst g1 e
              exact absurd ⟨h4, h5, h6⟩ hn
      refine ⟨fun g => absurd g (by omega), fun _ => ⟨vp_in_nI (by omega) (by omega), fun g => no (fun z => by rw [g] at z; cases z.1), fun g => s_isLaid (bs := bs) h cU hb hs ?_⟩⟩
      simp only [bI_0, Classical.not_not]
      refine ⟨fun g2 => no (fun z => g2 z.2.1), fun g2 => s_isLaid (bs := bs) h cU (by omega) hs ?_⟩
      simp only [bI_0, Classical.not_not]
      refine ⟨fun g3 => no (fun z => g3 z.2.2), fun g3 => ?_⟩
      have hpb := i_po h hb
      have hpk := i_po h (show k < dB Z by omega)
      have s1 : U 38 b = nI (cnt (laidB Z ps bs) (cl Z 65 b)) := by
        rw [u.1 38 (by decide)]
        have := h38 _ hpb.1 g2 hpb.2.2.1
        rw [hpb.2.2.2] at this
        exact this
      have s2 : U 38 k = nI (cnt (laidB Z ps bs) (cl Z 65 k)) := by
        rw [u.1 38 (by decide)]
        have := h38 _ hpk.1 g3 hpk.2.2.1
        rw [hpk.2.2.2] at this
        exact this
      have l1 : cnt (laidB Z ps bs) (cl Z 65 b) < nsl Z ps bs := cnt_lt g2 hpb.1
      have l2 : cnt (laidB Z ps bs) (cl Z 65 k) < nsl Z ps bs := cnt_lt g3 hpk.1
      obtain ⟨u1, tm, u2⟩ := u
      rw [cl_nI (show k < 2147483648 by omega), s1, s2, cl_nI (by omega), (u2 _ l1).1, bx_1shl (by omega), bx_or]
      refine ⟨vp_in_nI (by omega) (by omega), vp_in_nI (by omega) (by omega), vp_in_nI (by omega) (by omega), vp_in_nI (by omega) (by omega), fun X25 e25 w hw => ?_⟩
      rw [hw, nI_1, e25]
      have g' : (cl Z 23 b).testBit k = true := by cases hh : (cl Z 23 b).testBit k with
        | true => rfl
        | false => exact absurd hh g
      refine ihk _ ⟨fun q hq => by rw [sX_ne hq]; exact u1 q hq, fun s => if s = cnt (laidB Z ps bs) (cl Z 65 b) then tm s ||| 2 ^ cnt (laidB Z ps bs) (cl Z 65 k) else tm s, fun s hs => ?_⟩
      have old : ∀ t, twE Z ps bs b k s t → twE Z ps bs b (k + 1) s t := by
        rintro t ⟨b', c', h1, h2, h3, h4⟩
        exact ⟨b', c', h1, h2, by omega, h4⟩
      have new : ∀ t, twE Z ps bs b (k + 1) s t → twE Z ps bs b k s t ∨ (s = cnt (laidB Z ps bs) (cl Z 65 b) ∧ t = cnt (laidB Z ps bs) (cl Z 65 k)) := by
        rintro t ⟨b', c', h1, h2, h3, h4, h5, h6, h7, h8⟩
        by_cases e : b' = b ∧ c' = k
        · obtain ⟨e1, e2⟩ := e
          subst e1 e2
          exact Or.inr ⟨h7.symm, h8.symm⟩
        · exact Or.inl ⟨b', c', h1, h2, by omega, h4, h5, h6, h7, h8⟩
      rw [sX_eq]
      unfold upd
      dsimp only
      by_cases e : s = cnt (laidB Z ps bs) (cl Z 65 b)
      · rw [if_pos e, if_pos e, e]
        have hp : (2 : Nat) ^ cnt (laidB Z ps bs) (cl Z 65 k) < 2 ^ 18 := Nat.pow_lt_pow_right (by decide) (by omega)
        refine ⟨rfl, Nat.or_lt_two_pow (u2 _ l1).2.1 hp, fun t => ?_⟩
        rw [← e, Nat.testBit_or, Bool.or_eq_true, (u2 s hs).2.2 t, Nat.testBit_two_pow]
        constructor
        · rintro (z | z)
          · exact old t z
          · have z : cnt (laidB Z ps bs) (cl Z 65 k) = t := by simpa using z
            exact ⟨b, k, hk, hb, by omega, g', g2, g3, e.symm, z⟩
        · intro z
          rcases new t z with z | z
          · exact Or.inl z
          · exact Or.inr (by simpa using z.2.symm)
      · rw [if_neg e, if_neg e]
        refine ⟨(u2 s hs).1, (u2 s hs).2.1, fun t => ((u2 s hs).2.2 t).trans ⟨old t, fun z => ?_⟩⟩
        rcases new t z with z | z
        · exact z
        · exact absurd z.1 e
  · constructor
    · intro z
      simp at z
    · rintro ⟨b', c', h1, h2, h3, h4⟩
      omega
theorem twE_iff (h : Inv Z) {s t : Nat} (hs : s < nsl Z ps bs) : twE Z ps bs (dB Z) 0 s t ↔ t < s ∧ twB Z ps bs s t = true := by
  have hB := i_B h
  have a1 := pls_ok hs
  unfold twB
  rw [Bool.and_eq_true, Bool.and_eq_true, decide_eq_true_iff, decide_eq_true_iff]
  constructor
  · rintro ⟨b, c, h1, h2, h3, h4, h5, h6, h7, h8⟩
    have hb := i_po h h2
    have hc := i_po h (show c < dB Z by omega)
    have e1 : pls Z ps bs s = cl Z 65 b := by rw [← h7]; exact plc_eq hb.1 h5
    have e2 : pls Z ps bs t = cl Z 65 c := by rw [← h8]; exact plc_eq hc.1 h6
    rw [e1, e2, hb.2.2.2, hc.2.2.2]
    refine ⟨?_, ⟨hb.2.2.1, hc.2.2.1⟩, h4⟩
    rw [← h7, ← h8]
    refine cnt_lt h6 ?_
    rcases Nat.lt_trichotomy (cl Z 65 c) (cl Z 65 b) with g | g | g
    · exact g
    · have := hb.2.2.2
      rw [← g, hc.2.2.2] at this
      omega
    · have := cb_lt hb.2.2.1 g
      omega
  · rintro ⟨ht, ⟨g1, g2⟩, g3⟩
    have a2 := pls_ok (show t < nsl Z ps bs by omega)
    have lt : pls Z ps bs t < pls Z ps bs s := by
      rcases Nat.lt_or_ge (pls Z ps bs t) (pls Z ps bs s) with g | g
      · exact g
      · have := cnt_mono (laidB Z ps bs) g
        omega
    have hb : cb (Z 62) (pls Z ps bs s) < dB Z := by
      have := cb_lt g1 a1.1
      omega
    have hc : cb (Z 62) (pls Z ps bs t) < cb (Z 62) (pls Z ps bs s) := cb_lt g2 lt
    have pb := i_po h hb
    have pc := i_po h (show cb (Z 62) (pls Z ps bs t) < dB Z by omega)
    have e1 : cl Z 65 (cb (Z 62) (pls Z ps bs s)) = pls Z ps bs s := cb_inj pb.2.2.1 g1 pb.2.2.2
    have e2 : cl Z 65 (cb (Z 62) (pls Z ps bs t)) = pls Z ps bs t := cb_inj pc.2.2.1 g2 pc.2.2.2
    refine ⟨cb (Z 62) (pls Z ps bs s), cb (Z 62) (pls Z ps bs t), hc, hb, Or.inl hb, g3, ?_, ?_, ?_, ?_⟩
    · rw [e1]
      exact a1.2.1
    · rw [e2]
      exact a2.2.1
    · rw [e1]
      exact a1.2.2
    · rw [e2]
      exact a2.2.2
/-- what stands behind lay -/
def Laid (Z : XT) (ps bs : Nat) (al : Nat → Nat) (U : XT) : Prop := FR Z U ∧ U 31 3 = nI (nsl Z ps bs) ∧ ∀ s, s < nsl Z ps bs → U 32 s = nI (cl Z 60 (pls Z ps bs s)) ∧ U 33 s = nI (al s) ∧ ∃ tm : Nat, U 34 s = nI tm ∧ tm < 2 ^ 18 ∧ ∀ t, tm.testBit t = true ↔ t < s ∧ twB Z ps bs s t = true
theorem s_lay (h : Inv Z) (c : FR Z X) (hs : ps < 2147483648) (hb : bs < 2147483648) (hf : ∀ p, p < dK Z → X 36 p = nI (fitM Z v p)) (hq : ∀ U : XT, Laid Z ps bs (fun s => al0 Z v bs (pls Z ps bs s)) U → (∀ p, p < dK Z → U 36 p = nI (fitM Z v p)) → (∀ q, 39 ≤ q → U q = X q) → QV U Y) : PX0_lay (nI ps) (nI bs) X Y QV := by
  intro I15 h15
  have hk := i_K h
  have hP := i_P h
  have hN := i_N h
  have hm := nsl_le (ps := ps) (bs := bs) h
  unfold BX0_lay_s
  refine s_shutOut h c hb (fun V v1 v2 => ?_)
  refine dn (n := dK Z) (P := fun k => ∀ U : XT, (∀ q, q ≠ 31 → q ≠ 32 → q ≠ 33 → q ≠ 34 → q ≠ 38 → U q = V q) → U 31 3 = nI (cnt (laidB Z ps bs) k) → (∀ p, p < k → laidB Z ps bs p = true → U 32 (cnt (laidB Z ps bs) p) = nI (cl Z 60 p) ∧ U 33 (cnt (laidB Z ps bs) p) = nI (al0 Z v bs p) ∧ U 34 (cnt (laidB Z ps bs) p) = 0) → (∀ p, p < k → laidB Z ps bs p = true → Z 62 p = -1 → U 38 (cb (Z 62) p) = nI (cnt (laidB Z ps bs) p)) → I15 (nI ps) (nI bs) (nI k) U Y) ?_ ?_ 0 (by omega) (sX V 31 3 0) (fun q h1 _ _ _ _ => sX_ne h1) (by rw [sX_eq]; simp [upd, cnt]; rfl) (fun p hp => absurd hp (by omega)) (fun p hp => absurd hp (by omega))
  · intro U u1 u2 u3 u4
    have cU : FR Z U := c.trans (FR.only [31, 32, 33, 34, 37, 38] (by intro q hq; simp at hq; omega) (fun q hq => by simp at hq; rw [u1 q hq.1 hq.2.1 hq.2.2.1 hq.2.2.2.1 hq.2.2.2.2.2, v1 q hq.2.2.2.2.1]))
    apply h15
    unfold BX0_lay_15
    rw [cU.lo (by omega), c_K h, hk.2, le_nI (by omega) (by omega)]
    refine ⟨fun _ => s_layTwins (bs := bs) h cU hs (fun s hss => ?_) u4 (fun W w => ?_), fun g => absurd (by omega) g⟩
    · have a := pls_ok hss
      have := (u3 _ a.1 a.2.1).2.2
      rw [a.2.2] at this
      exact this
    · obtain ⟨w1, tm, w2⟩ := w
      refine hq W ⟨cU.trans (FR.only [34] (by intro q hq; simp at hq; omega) (fun q hq => w1 q (by simpa using hq))), ?_, fun s hss => ?_⟩ (fun p hp => ?_) (fun q hq => ?_)
      · rw [w1 31 (by decide)]
        exact u2
      · have a := pls_ok hss
        have b := u3 _ a.1 a.2.1
        rw [a.2.2] at b
        refine ⟨?_, ?_, tm s, (w2 s hss).1, (w2 s hss).2.1, fun t => ((w2 s hss).2.2 t).trans (twE_iff h hss)⟩
        · rw [w1 32 (by decide)]
          exact b.1
        · rw [w1 33 (by decide)]
          exact b.2.1
      · rw [w1 36 (by decide), u1 36 (by decide) (by decide) (by decide) (by decide) (by decide), v1 36 (by decide)]
        exact hf p hp
      · rw [w1 q (by omega), u1 q (by omega) (by omega) (by omega) (by omega) (by omega), v1 q (by omega)]
  · intro k hkk ih U u1 u2 u3 u4
    have cU : FR Z U := c.trans (FR.only [31, 32, 33, 34, 37, 38] (by intro q hq; simp at hq; omega) (fun q hq => by simp at hq; rw [u1 q hq.1 hq.2.1 hq.2.2.1 hq.2.2.2.1 hq.2.2.2.2.2, v1 q hq.2.2.2.2.1]))
    apply h15
    unfold BX0_lay_15
    have hpg := i_pg h hkk
    rw [cU.lo (show 13 < 31 by omega), c_K h, hk.2, le_nI (by omega) (by omega)]
    refine ⟨fun g => absurd g (by omega), fun _ => ⟨vp_in_nI (by omega) (by omega), fun w6 e6 => ?_⟩⟩
    rw [cl_nI (by omega), cU.lo (show 16 < 31 by omega), c_16 h, hpg.2] at e6
    subst e6
    rw [eq_has]
    simp only [bI_0, Classical.not_not]
    rw [bx_bit0 hs (by omega)]
    have no : ¬ laidB Z ps bs k = true → ∀ w : Int32, w = nI k + 1 → I15 (nI ps) (nI bs) w U Y := by
      intro hn w hw
      rw [hw, nI_1]
      refine ih U u1 (by rw [cnt_s, if_neg hn]; exact u2) (fun p hp hl => ?_) (fun p hp hl => ?_)
      · have : p ≠ k := fun e => hn (by rw [← e]; exact hl)
        exact u3 p (by omega) hl
      · have : p ≠ k := fun e => hn (by rw [← e]; exact hl)
        exact u4 p (by omega) hl
    refine ⟨fun g => no (fun z => by unfold laidB at z; rw [g] at z; cases z), fun g => s_isShown h cU hkk hb ?_⟩
    simp only [bI_0]
    refine ⟨fun g2 => no (fun z => ?_), fun g2 => ⟨vp_in_nI (by omega) (by omega), ?_⟩⟩
    · have g2 := Classical.not_not.mp g2
      unfold laidB at z
      rw [g2, Bool.and_false] at z
      cases z
    have hl : laidB Z ps bs k = true := by
      unfold laidB
      rw [Bool.and_eq_true]
      constructor
      · cases hh : ps.testBit (cl Z 60 k) with
        | true => rfl
        | false => exact absurd hh g
      · cases hh : hidB Z bs k with
        | true => rfl
        | false => exact absurd hh g2
    have hlt : cnt (laidB Z ps bs) k < nsl Z ps bs := cnt_lt hl hkk
    have hba := (i_ba h hkk).1
    have hcb := i_B h
    rw [cl_nI (show k < 2147483648 by omega), cU.lo (show 20 < 31 by omega), c_20 h, hba]
    refine s_note (s := cnt (laidB Z ps bs) k) u2 ?_ (fun W w1 w2 w3 => ?_)
    · by_cases e : Z 62 k = -1
      · rw [if_pos e]
        have := cb_lt e hkk
        exact Or.inr ⟨_, by omega, rfl⟩
      · rw [if_neg e]
        exact Or.inl rfl
    · have e36 : W 36 k = nI (fitM Z v k) := by
        rw [w1 36 (by decide), u1 36 (by decide) (by decide) (by decide) (by decide) (by decide), v1 36 (by decide)]
        exact hf k hkk
      have e37 : W 37 (cl Z 60 k) = nI (som Z bs (cl Z 60 k) (dK Z)) := by
        rw [w1 37 (by decide), u1 37 (by decide) (by decide) (by decide) (by decide) (by decide)]
        exact v2 _ (by omega)
      have hfl : fitM Z v k < 2 ^ dN Z := mk_lt _ _
      have := pow_le_1024 hN.1 hfl
      rw [e36, cl_nI (show cl Z 60 k < 2147483648 by omega), e37, bx_andnot (by omega)]
      refine ⟨vp_in_nI (by omega) (by omega), vp_in_nI (by omega) (by omega), s_addSlot (s := cnt (laidB Z ps bs) k) (by omega) (by rw [w1 31 (by decide)]; exact u2) (fun T t1 t2 t3 t4 t5 w hw => ?_)⟩
      rw [hw, nI_1]
      refine ih T (fun q h1 h2 h3 h4 h5 => by rw [t1 q h1 h2 h3 h4, w1 q h5]; exact u1 q h1 h2 h3 h4 h5) (by rw [cnt_s, if_pos hl]; exact t2) (fun p hp hlp => ?_) (fun p hp hlp hbp => ?_)
      · rw [t3, t4, t5]
        unfold upd
        by_cases e : p = k
        · rw [e, if_pos rfl, if_pos rfl, if_pos rfl]
          exact ⟨rfl, rfl, rfl⟩
        · have hne : cnt (laidB Z ps bs) p ≠ cnt (laidB Z ps bs) k := fun z => e (cnt_inj hlp hl z)
          rw [if_neg hne, if_neg hne, if_neg hne, w1 32 (by decide), w1 33 (by decide), w1 34 (by decide)]
          exact u3 p (by omega) hlp
      · rw [t1 38 (by decide) (by decide) (by decide) (by decide)]
        by_cases e : Z 62 k = -1
        · have hc := cb_lt e hkk
          rw [w3 (cb (Z 62) k) (by omega) (by rw [if_pos e])]
          unfold upd
          by_cases e2 : p = k
          · rw [e2, if_pos rfl]
          · rw [if_neg (fun z => e2 (cb_inj hbp e z))]
            exact u4 p (by omega) hlp hbp
        · rw [w2 (by rw [if_neg e])]
          have e2 : p ≠ k := fun z => e (by rw [← z]; exact hbp)
          exact u4 p (by omega) hlp hbp
end LAY2
