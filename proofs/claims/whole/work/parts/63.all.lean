/-! ALL PAGES, and what readers know -/
def pA (Z : XT) : Nat := 2 ^ dP Z - 1
def lvB (Z : XT) (rd b k n : Nat) : Bool := decide (∀ r, r < k → rd.testBit r = true → (Z 79 (10 * r + b) = -1 ∨ Z 79 (10 * r + b) = nI n) ∧ (cl Z 78 r).testBit n = false)
def lvM (Z : XT) (rd b k : Nat) : Nat := mk (lvB Z rd b k) 10
theorem lvB_iff {Z : XT} {rd b k n : Nat} : lvB Z rd b k n = true ↔ ∀ r, r < k → rd.testBit r = true → (Z 79 (10 * r + b) = -1 ∨ Z 79 (10 * r + b) = nI n) ∧ (cl Z 78 r).testBit n = false := by
  unfold lvB
  exact decide_eq_true_iff
theorem lvM_bit {Z : XT} {rd b k n : Nat} : (lvM Z rd b k).testBit n = true ↔ n < 10 ∧ lvB Z rd b k n = true := by
  unfold lvM
  rw [mk_bit, Bool.and_eq_true, decide_eq_true_iff]
theorem lvM_lt {Z : XT} {rd b k : Nat} : lvM Z rd b k < 1024 := mk_lt _ 10
theorem bit_lt {x n k : Nat} (h : x < 2 ^ k) (hb : x.testBit n = true) : n < k := by
  rcases Nat.lt_or_ge n k with g | g
  · exact g
  · rw [Nat.testBit_lt_two_pow (Nat.lt_of_lt_of_le h (Nat.pow_le_pow_right (by decide) g))] at hb
    cases hb
theorem andn_bit {x y n : Nat} : (x ^^^ (x &&& y)).testBit n = true ↔ x.testBit n = true ∧ y.testBit n = false := by
  rw [Nat.testBit_xor, Nat.testBit_and]
  cases x.testBit n <;> cases y.testBit n <;> simp
section ALL
variable {Z X : XT} {Y : YT} {Q : Int32 → XT → YT → Prop} {QV : XT → YT → Prop} {rd w : Nat}
theorem pA_bit {g : Nat} : (pA Z).testBit g = decide (g < dP Z) := by
  unfold pA
  rw [Nat.testBit_two_pow_sub_one]
theorem pA_lt (h : Inv Z) : pA Z < 256 := by
  have hP := (i_P h).1
  have : (2 : Nat) ^ dP Z ≤ 2 ^ 8 := Nat.pow_le_pow_right (by decide) hP
  have e : (2 : Nat) ^ 8 = 256 := by decide
  have p : 0 < (2 : Nat) ^ dP Z := Nat.two_pow_pos _
  unfold pA
  omega
theorem laidA (h : Inv Z) {p : Nat} (hp : p < dK Z) : laidB Z (pA Z) 0 p = decide (Z 62 p = -1) := by
  unfold laidB hidB
  rw [pA_bit, decide_eq_true (i_pg h hp).1]
  simp
theorem cntA (h : Inv Z) : ∀ k, k ≤ dK Z → cnt (laidB Z (pA Z) 0) k = cb (Z 62) k
  | 0, _ => rfl
  | k + 1, hk => by
    rw [cnt_s, cb_s, cntA h k (by omega), laidA h (by omega)]
    simp
theorem nslA (h : Inv Z) : nsl Z (pA Z) 0 = dB Z := by
  unfold nsl
  rw [cntA h _ (Nat.le_refl _), (i_B h).2.2]
theorem plsA (h : Inv Z) {s : Nat} (hs : s < dB Z) : pls Z (pA Z) 0 s < dK Z ∧ Z 62 (pls Z (pA Z) 0 s) = -1 ∧ cb (Z 62) (pls Z (pA Z) 0 s) = s := by
  have a := pls_ok (Z := Z) (ps := pA Z) (bs := 0) (s := s) (by rw [nslA h]; exact hs)
  have l := laidA h a.1
  rw [a.2.1] at l
  refine ⟨a.1, of_decide_eq_true l.symm, ?_⟩
  rw [← cntA h _ (by omega)]
  exact a.2.2
theorem isBarA (h : Inv Z) {b : Nat} (hb : b < dB Z) : isBarS Z (pA Z) 0 b b := by
  have a := plsA h hb
  exact ⟨by rw [nslA h]; exact hb, a.2.1, a.2.2⟩
theorem s_leftBy (h : Inv Z) (c : FR Z X) {r b : Nat} (hr : r < 4) (hb : b < 10) (hq : ∀ x, x < 1024 → (∀ n, x.testBit n = true ↔ n < 10 ∧ (Z 79 (10 * r + b) = -1 ∨ Z 79 (10 * r + b) = nI n) ∧ (cl Z 78 r).testBit n = false) → Q (nI x) X Y) : PX4_leftBy (nI r) (nI b) X Y Q := by
  have hN := i_N h
  have ha := i_aw (j := r) h
  have hal := pow_le_1024 hN.1 ha.1
  unfold PX4_leftBy BX4_leftBy_s
  rw [mul10, cl_nI (by omega), cl_nI (by omega), c.lo (show 30 < 31 by omega), c.lo (show 29 < 31 by omega), c_30 h, c_29 h, ha.2, eq_allBelow]
  refine ⟨vp_in_nI (by omega) (by omega), fun w1 e1 => ?_⟩
  subst e1
  refine ⟨fun g => ⟨vp_in_nI (by omega) (by omega), ?_⟩, fun g => ⟨vp_in_nI (by omega) (by omega), ?_⟩⟩
  · have hk := (i_kn h (show 10 * r + b < 40 by omega)).resolve_left g
    rw [hk.2, bx_1shl (by omega)]
    have l2 : (2 : Nat) ^ cl Z 79 (10 * r + b) < 2 ^ 10 := Nat.pow_lt_pow_right (by decide) (by omega)
    have e := p1024
    rw [bx_andnot (by omega)]
    refine hq _ ?_ (fun n => ?_)
    · have : 2 ^ cl Z 79 (10 * r + b) &&& cl Z 78 r < 2 ^ 10 := Nat.and_lt_two_pow _ (by omega)
      have := Nat.xor_lt_two_pow l2 this
      omega
    · rw [andn_bit, Nat.testBit_two_pow, decide_eq_true_iff]
      constructor
      · rintro ⟨z1, z2⟩
        exact ⟨by omega, Or.inr (by rw [hk.2, z1]), z2⟩
      · rintro ⟨z1, z2, z3⟩
        refine ⟨?_, z3⟩
        rcases z2 with z2 | z2
        · exact absurd z2 g
        · rw [hk.2, eq_nI (by omega) (by omega)] at z2
          exact z2
  · have e10 : ((1 : Int32) <<< ((10 : Int32) &&& 31)) - 1 = nI 1023 := by decide
    rw [e10, c.lo (show 29 < 31 by omega), c_29 h, ha.2, bx_andnot (by omega)]
    have e := p1024
    refine hq _ ?_ (fun n => ?_)
    · have : 1023 &&& cl Z 78 r < 2 ^ 10 := Nat.and_lt_two_pow _ (by omega)
      have := Nat.xor_lt_two_pow (show 1023 < 2 ^ 10 by omega) this
      omega
    · rw [andn_bit, show (1023 : Nat) = 2 ^ 10 - 1 by decide, Nat.testBit_two_pow_sub_one, decide_eq_true_iff]
      exact ⟨fun z => ⟨z.1, Or.inl g, z.2⟩, fun z => ⟨z.1, z.2.2⟩⟩
theorem s_leave (h : Inv Z) (c : FR Z X) (hrd : rd < 16) {b : Nat} (hb : b < 10) (hq : Q (nI (lvM Z rd b 4)) X Y) : PX4_leave (nI rd) (nI b) X Y Q := by
  intro I9 h9
  unfold BX4_leave_s
  rw [eq_allBelow]
  have e10 : ((1 : Int32) <<< ((10 : Int32) &&& 31)) - 1 = nI (lvM Z rd b 0) := by
    have : lvM Z rd b 0 = 1023 := by
      apply Nat.eq_of_testBit_eq
      intro i
      unfold lvM
      rw [mk_bit, show (1023 : Nat) = 2 ^ 10 - 1 by decide, Nat.testBit_two_pow_sub_one]
      have : lvB Z rd b 0 i = true := lvB_iff.mpr (fun r hr => absurd hr (by omega))
      rw [this, Bool.and_true]
    rw [this]
    decide
  rw [e10]
  refine dn (n := 4) (P := fun k => I9 (nI rd) (nI b) (nI (lvM Z rd b k)) (nI k) X Y) ?_ ?_ 0 (by omega)
  · apply h9
    unfold BX4_leave_9
    exact ⟨fun _ => hq, fun g => absurd (by decide) g⟩
  · intro k hk ih
    apply h9
    unfold BX4_leave_9
    have s4 : ∀ n, lvB Z rd b (k + 1) n = true ↔ lvB Z rd b k n = true ∧ (rd.testBit k = true → (Z 79 (10 * k + b) = -1 ∨ Z 79 (10 * k + b) = nI n) ∧ (cl Z 78 k).testBit n = false) := by
      intro n
      rw [lvB_iff, lvB_iff]
      refine ⟨fun z => ⟨fun r hr => z r (by omega), z k (by omega)⟩, fun z r hr => ?_⟩
      by_cases e : r = k
      · rw [e]
        exact z.2
      · exact z.1 r (by omega)
    rw [show (4 : Int32) = nI 4 from rfl, le_nI (by omega) (by omega), eq_has]
    simp only [bI_0, Classical.not_not]
    rw [bx_bit0 (by omega) (by omega)]
    refine ⟨fun g => absurd g (by omega), fun _ => ⟨fun g w hw => ?_, fun g => s_leftBy h c hk hb (fun x hx hxb w hw w2 hw2 => ?_)⟩⟩
    · have e : lvM Z rd b k = lvM Z rd b (k + 1) := by
        apply Nat.eq_of_testBit_eq
        intro i
        apply Bool.eq_iff_iff.mpr
        rw [lvM_bit, lvM_bit, s4]
        exact ⟨fun z => ⟨z.1, z.2, fun y => by rw [g] at y; cases y⟩, fun z => ⟨z.1, z.2.1⟩⟩
      rw [hw, nI_1, e]
      exact ih
    · have g' : rd.testBit k = true := by cases hh : rd.testBit k with
        | true => rfl
        | false => exact absurd hh g
      have e : lvM Z rd b k &&& x = lvM Z rd b (k + 1) := by
        apply Nat.eq_of_testBit_eq
        intro i
        apply Bool.eq_iff_iff.mpr
        rw [Nat.testBit_and, Bool.and_eq_true, lvM_bit, lvM_bit, s4, hxb]
        exact ⟨fun z => ⟨z.1.1, z.1.2, fun _ => z.2.2⟩, fun z => ⟨⟨z.1, z.2.1⟩, z.1, z.2.2 g'⟩⟩
      rw [hw2, nI_1, hw, bx_and, e]
      exact ih
/-- what may stand under the bars, to readers -/
def alR (Z : XT) (v rd s : Nat) : Nat := al0 Z v 0 (pls Z (pA Z) 0 s) &&& lvM Z rd s 4
def alK (Z : XT) (v rd k s : Nat) : Nat := if s < k then alR Z v rd s else al0 Z v 0 (pls Z (pA Z) 0 s)
theorem alK_lt {v rd k s : Nat} (h : s < k) : alK Z v rd k s = alR Z v rd s := by unfold alK; rw [if_pos h]
theorem alK_ge {v rd k s : Nat} (h : ¬ s < k) : alK Z v rd k s = al0 Z v 0 (pls Z (pA Z) 0 s) := by unfold alK; rw [if_neg h]
theorem al0_lt {v bs p : Nat} : al0 Z v bs p < 2 ^ dN Z := Nat.xor_lt_two_pow (mk_lt _ _) (by rw [Nat.and_comm]; exact Nat.and_lt_two_pow _ (mk_lt _ _))
theorem al0_bit {v bs p n : Nat} (hn : n < dN Z) : (al0 Z v bs p).testBit n = true ↔ fitB Z v p n = true ∧ (som Z bs (cl Z 60 p) (dK Z)).testBit n = false := by
  unfold al0
  rw [andn_bit]
  unfold fitM
  rw [mk_bit, decide_eq_true hn, Bool.true_and]
/-- the machine's answer, all pages laid -/
def srA (Z : XT) (v rd w : Nat) : Bool × List (Nat → Nat) := srch (nsl Z (pA Z) 0) (dN Z) w (okS (fun s => cl Z 60 (pls Z (pA Z) 0 s)) (alR Z v rd) (cl Z 56) (twB Z (pA Z) 0))
theorem Laid.ch {ps bs : Nat} {al : Nat → Nat} (h : Inv Z) (l : Laid Z ps bs al X) (ha : ∀ s, s < nsl Z ps bs → al s < 2 ^ dN Z) : CH Z (nsl Z ps bs) (fun s => cl Z 60 (pls Z ps bs s)) al (twB Z ps bs) X := by
  obtain ⟨l1, l2, l3⟩ := l
  have hP := i_P h
  refine ⟨l1, nsl_le h, l2, fun s hs => ?_, fun x y hxy hy => i_mono h (pls_mono hxy hy) (pls_ok hy).1⟩
  have pg := i_pg h (pls_ok hs).1
  exact ⟨by show cl Z 60 (pls Z ps bs s) < 8; omega, (l3 s hs).1, ha s hs, (l3 s hs).2.1, (l3 s hs).2.2⟩
theorem s_goC (h : Inv Z) (c : FR Z X) (hrd : rd < 16) (hw : w < 2147483648) (hq : ∀ A U V, CH Z (nsl Z (pA Z) 0) (fun s => cl Z 60 (pls Z (pA Z) 0 s)) (alR Z (cl Z 48 9) rd) (twB Z (pA Z) 0) A → A 40 = X 40 → EndC Z (nsl Z (pA Z) 0) w A (srA Z (cl Z 48 9) rd w).1 (srA Z (cl Z 48 9) rd w).2 U V → QV U V) : PX9_goThrough (nI rd) (nI w) X Y QV := by
  intro I31 h31
  have hS := i_sl h
  have hP := i_P h
  have hB := i_B h
  have hN := i_N h
  have hA := pA_lt h
  unfold BX9_goThrough_s
  rw [c.lo (by omega), c_sl h, hS.2]
  refine s_measureAll h c (by omega) (fun U u1 u2 => ?_)
  have cU : FR Z U := c.trans (FR.only [36] (by intro q hq; simp at hq; omega) (fun q hq => u1 q (by simpa using hq)))
  rw [eq_allBelow, cU.lo (by omega), c_P h, hP.2, bx_below (by omega)]
  refine s_lay (ps := pA Z) (bs := 0) h cU (by omega) (by omega) u2 (fun A lA a1 a2 => ?_)
  have eK : alK Z (cl Z 48 9) rd 0 = fun s => al0 Z (cl Z 48 9) 0 (pls Z (pA Z) 0 s) := by
    funext s
    exact alK_ge (by omega)
  refine dn (n := dB Z) (P := fun k => ∀ A : XT, Laid Z (pA Z) 0 (alK Z (cl Z 48 9) rd k) A → A 40 = X 40 → I31 (nI rd) (nI w) (nI k) A Y) ?_ ?_ 0 (by omega) A (by rw [eK]; exact lA) (by rw [a2 40 (by omega), u1 40 (by decide)])
  · intro A lA a40
    apply h31
    unfold BX9_goThrough_31
    rw [lA.1.lo (by omega), c_B h, hB.2.1, le_nI (by omega) (by omega)]
    refine ⟨fun _ => ?_, fun g => absurd (by omega) g⟩
    have l2 : Laid Z (pA Z) 0 (alR Z (cl Z 48 9) rd) A := by
      obtain ⟨z1, z2, z3⟩ := lA
      refine ⟨z1, z2, fun s hs => ?_⟩
      have := z3 s hs
      rw [nslA h] at hs
      rw [alK_lt hs] at this
      exact this
    have ch := l2.ch h (fun s hs => Nat.lt_of_le_of_lt (Nat.and_le_left) al0_lt)
    exact s_go h ch hw (fun U V e => hq A U V ch a40 e)
  · intro k hk ih A lA a40
    apply h31
    unfold BX9_goThrough_31
    have e33 : A 33 k = nI (al0 Z (cl Z 48 9) 0 (pls Z (pA Z) 0 k)) := by
      have := (lA.2.2 k (by rw [nslA h]; exact hk)).2.1
      rw [alK_ge (by omega)] at this
      exact this
    rw [lA.1.lo (by omega), c_B h, hB.2.1, le_nI (by omega) (by omega), cl_nI (by omega), e33]
    refine ⟨fun g => absurd g (by omega), fun _ => ⟨vp_in_nI (by omega) (by omega), s_leave h lA.1 hrd (by omega) ⟨vp_in_nI (by omega) (by omega), fun X10 e10 w' hw' => ?_⟩⟩⟩
    rw [bx_and] at e10
    rw [hw', nI_1]
    obtain ⟨z1, z2, z3⟩ := lA
    refine ih X10 ⟨by rw [e10]; exact z1.set (by omega), by rw [e10, sX_ne (by decide)]; exact z2, fun s hs => ?_⟩ (by rw [e10, sX_ne (by decide)]; exact a40)
    have zs := z3 s hs
    rw [e10, sX_ne (show (32 : Nat) ≠ 33 by decide), sX_ne (show (34 : Nat) ≠ 33 by decide), sX_eq]
    refine ⟨zs.1, ?_, zs.2.2⟩
    unfold upd
    by_cases e : s = k
    · rw [if_pos e, alK_lt (by omega), e]
      rfl
    · rw [if_neg e, zs.2.1]
      by_cases e2 : s < k
      · rw [alK_lt e2, alK_lt (by omega)]
      · rw [alK_ge e2, alK_ge (by omega)]
/-- what the reference lays before: who is away, what must stand -/
def Jn (Z : XT) (rd k aw : Nat) (mu : Nat → Int32) : Prop := aw < 2 ^ dN Z ∧ (∀ n, aw.testBit n = true ↔ ∃ r, r < k ∧ rd.testBit r = true ∧ (cl Z 78 r).testBit n = true) ∧ ∀ b, b < dB Z → ∀ n, n < dN Z → ((mu b = -1 ∨ mu b = nI n) ↔ ∀ r, r < k → rd.testBit r = true → (Z 79 (10 * r + b) = -1 ∨ Z 79 (10 * r + b) = nI n))
theorem Jn.none {k : Nat} : Jn Z 0 k 0 (fun _ => -1) := by
  refine ⟨Nat.two_pow_pos _, fun n => ?_, fun b _ n _ => ?_⟩
  · simp
  · simp
theorem Jn.al (h : Inv Z) {v aw : Nat} {mu : Nat → Int32} (j : Jn Z rd 4 aw mu) : ∀ s, s < nsl Z (pA Z) 0 → ∀ n, n < dN Z → ((alR Z v rd s).testBit n = true ↔ alM Z 0 aw mu v (pls Z (pA Z) 0 s) n) := by
  intro s hs n hn
  rw [nslA h] at hs
  have a := plsA h hs
  have hN := (i_N h).1
  unfold alR alM
  rw [Nat.testBit_and, Bool.and_eq_true, al0_bit hn, lvM_bit, lvB_iff, a.2.2]
  have nf : ∀ b : Bool, b = false ↔ ¬ b = true := fun b => by cases b <;> simp
  rw [nf (aw.testBit n), j.2.1 n]
  constructor
  · rintro ⟨⟨z1, z2⟩, z3, z4⟩
    refine ⟨?_, fun _ => (j.2.2 s hs n hn).mpr (fun r hr hb => (z4 r hr hb).1), z1, z2⟩
    rintro ⟨r, y1, y2, y3⟩
    rw [(z4 r y1 y2).2] at y3
    cases y3
  · rintro ⟨z1, z2, z3, z4⟩
    refine ⟨⟨z3, z4⟩, by omega, fun r hr hb => ⟨(j.2.2 s hs n hn).mp (z2 a.2.1) r hr hb, ?_⟩⟩
    rw [nf]
    exact fun y => z1 ⟨r, hr, hb, y⟩
end ALL
