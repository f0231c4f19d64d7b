/-! THE CLASS'S SEARCH does what the machine does: its pieces -/
def CH (Z : XT) (m : Nat) (pg al : Nat → Nat) (tw : Nat → Nat → Bool) (B : XT) : Prop :=
  FR Z B ∧ m ≤ 18 ∧ B 31 3 = nI m ∧ (∀ s, s < m → pg s < 8 ∧ B 32 s = nI (pg s) ∧ al s < 2 ^ dN Z ∧ B 33 s = nI (al s) ∧ ∃ tm : Nat, B 34 s = nI tm ∧ tm < 2 ^ 18 ∧ ∀ t, tm.testBit t = true ↔ t < s ∧ tw s t = true) ∧ ∀ x y, x ≤ y → y < m → pg x ≤ pg y
def SO (Z : XT) (pg a : Nat → Nat) (s so : Nat) : Prop := so < 2 ^ dN Z ∧ ∀ n, so.testBit n = true ↔ ∃ x, x < s ∧ pg x = pg s ∧ (a x - 1 = n ∨ (cl Z 56 (a x - 1)).testBit n = true)
def FRE (Z : XT) (pg al : Nat → Nat) (tw : Nat → Nat → Bool) (a : Nat → Nat) (s fr : Nat) : Prop := fr < 2 ^ dN Z ∧ ∀ n, fr.testBit n = okS pg al (cl Z 56) tw s a n
theorem p1024 : (2 : Nat) ^ 10 = 1024 := by decide
theorem p18 : (2 : Nat) ^ 18 = 262144 := by decide
section CLS
variable {Z B X : XT} {Y : YT} {Q : Int32 → XT → YT → Prop} {QV : XT → YT → Prop} {m : Nat} {pg al a : Nat → Nat} {tw : Nat → Nat → Bool}
theorem s_enter (h : Inv Z) (ch : CH Z m pg al tw B) {s : Nat} (hs : s < m) (fr : ∀ q, q < 39 ∨ 47 ≤ q → X q = B q) (hg : ∀ j, j < s → X 42 j = nI (a j - 1) ∧ a j - 1 < dN Z) (hso : 0 < s → ∃ so, X 44 (s - 1) = nI so ∧ SO Z pg a (s - 1) so) (hq : ∀ U : XT, (∀ q, q ≠ 43 → q ≠ 44 → q ≠ 45 → U q = X q) → U 43 = upd (X 43) s 0 → (∃ so, U 44 = upd (X 44) s (nI so) ∧ SO Z pg a s so) → (∃ f, U 45 = upd (X 45) s (nI f) ∧ FRE Z pg al tw a s f) → QV U Y) : PX5_enter (nI s) X Y QV := by
  intro I51 I84 h51 h84
  obtain ⟨cB, hm, -, hsl, hmono⟩ := ch
  obtain ⟨b1, b2, b3, b4, tm, b5, b6, b7⟩ := hsl s hs
  have hN := i_N h
  have cX : FR Z X := cB.trans (FR.only [39, 40, 41, 42, 43, 44, 45, 46] (by intro q hq; simp at hq; omega) (fun q hq => fr q (by simp at hq; omega)))
  have big : ∀ z, z < 2 ^ dN Z → z < 1024 := fun z hz => pow_le_1024 hN.1 hz
  have step : ∀ so, SO Z pg a s so → I51 (nI s) (nI so) (nI s) (sX X 43 s 0) Y := by
    intro so hso'
    apply h51
    unfold BX5_enter_51
    rw [cl_nI (by omega)]
    refine ⟨vp_in_nI (by omega) (by omega), vp_in_nI (by omega) (by omega), vp_in_nI (by omega) (by omega), fun w1 e1 => ⟨vp_in_nI (by omega) (by omega), fun w3 e3 => ?_⟩⟩
    have e33 : (sX (sX X 43 s 0) 44 s (nI so)) 33 s = nI (al s) := by rw [sX_ne (by decide), sX_ne (by decide), fr 33 (by omega)]; exact b4
    have e34 : (sX (sX X 43 s 0) 44 s (nI so)) 34 s = nI tm := by rw [sX_ne (by decide), sX_ne (by decide), fr 34 (by omega)]; exact b5
    have e44 : (sX (sX X 43 s 0) 44 s (nI so)) 44 s = nI so := by rw [sX_eq]; simp [upd]
    have ba := big _ b3
    rw [e33, e44, bx_andnot (by omega)] at e1
    rw [e34] at e3
    subst e1 e3
    have fin : ∀ x, x < 2 ^ dN Z → (∀ n, x.testBit n = true ↔ (al s).testBit n = true ∧ so.testBit n = false ∧ ∀ t, t < s → tm.testBit t = true → a t - 1 = n) → QV (sX (sX (sX X 43 s 0) 44 s (nI so)) 45 s (nI x)) Y := by
      intro x hx hb
      refine hq _ (fun q h1 h2 h3 => by rw [sX_ne h3, sX_ne h2, sX_ne h1]) ?_ ⟨so, ?_, hso'⟩ ⟨x, ?_, hx, fun n => ?_⟩
      · rw [sX_ne (by decide), sX_ne (by decide), sX_eq]
      · rw [sX_ne (by decide), sX_eq, sX_ne (by decide)]
      · rw [sX_eq, sX_ne (by decide), sX_ne (by decide)]
      · apply Bool.eq_iff_iff.mpr
        rw [hb n, okS_iff]
        constructor
        · rintro ⟨g1, g2, g3⟩
          refine ⟨g1, fun z hz hpz => ?_, fun z hz htw => g3 z hz ((b7 z).mpr ⟨hz, htw⟩)⟩
          have hno : ¬ so.testBit n = true := by rw [g2]; decide
          rw [hso'.2 n] at hno
          refine ⟨fun e => hno ⟨z, hz, hpz, Or.inl e⟩, ?_⟩
          cases hh : (cl Z 56 (a z - 1)).testBit n with
          | false => rfl
          | true => exact absurd ⟨z, hz, hpz, Or.inr hh⟩ hno
        · rintro ⟨g1, g2, g3⟩
          refine ⟨g1, ?_, fun z hz hb => g3 z hz ((b7 z).mp hb).2⟩
          cases hh : so.testBit n with
          | false => rfl
          | true =>
            obtain ⟨z, hz, hpz, e⟩ := (hso'.2 n).mp hh
            have := g2 z hz hpz
            rcases e with e | e
            · exact absurd e this.1
            · rw [this.2] at e
              cases e
    refine dn (n := s) (P := fun t => ∀ x, x < 2 ^ dN Z → (∀ n, x.testBit n = true ↔ (al s).testBit n = true ∧ so.testBit n = false ∧ ∀ t', t' < t → tm.testBit t' = true → a t' - 1 = n) → I84 (nI s) (nI x) (nI tm) (nI t) (sX (sX X 43 s 0) 44 s (nI so)) Y) ?_ ?_ 0 (by omega) _ ?_ ?_
    · intro x hx hb
      apply h84
      unfold BX5_enter_84
      rw [le_nI (by omega) (by omega), cl_nI (by omega)]
      exact ⟨fun _ => ⟨vp_in_nI (by omega) (by omega), fin x hx hb⟩, fun g => absurd (by omega) g⟩
    · intro t ht ih x hx hb
      apply h84
      unfold BX5_enter_84
      have := p18
      have e0 : (nI tm = 0) = (tm = 0) := eq_nI (b := 0) (by omega) (by omega)
      rw [le_nI (by omega) (by omega), cl_nI (show s < 2147483648 by omega), e0]
      refine ⟨fun g => absurd g (by omega), fun _ => ⟨fun g => ⟨vp_in_nI (by omega) (by omega), fin x hx (fun n => ?_)⟩, fun g => ?_⟩⟩
      · rw [hb n]
        subst g
        simp
      · rw [eq_has]
        simp only [bI_0, Classical.not_not]
        rw [bx_bit0 (by omega) (by omega)]
        refine ⟨fun g2 w hw => ?_, fun g2 => ⟨vp_in_nI (by omega) (by omega), fun w hw w2 hw2 => ?_⟩⟩
        · rw [hw, nI_1]
          refine ih x hx (fun n => (hb n).trans ?_)
          refine ⟨fun z => ⟨z.1, z.2.1, fun t' ht' hb' => ?_⟩, fun z => ⟨z.1, z.2.1, fun t' ht' hb' => z.2.2 t' (by omega) hb'⟩⟩
          have : t' ≠ t := fun e => by rw [e, g2] at hb'; cases hb'
          exact z.2.2 t' (by omega) hb'
        · have e42 : (sX (sX X 43 s 0) 44 s (nI so)) 42 t = nI (a t - 1) := by rw [sX_ne (by decide), sX_ne (by decide)]; exact (hg t ht).1
          have hlt := (hg t ht).2
          rw [cl_nI (by omega), e42, bx_1shl (by omega), bx_and] at hw
          rw [hw2, nI_1, hw]
          have g3 : tm.testBit t = true := by cases hh : tm.testBit t with
            | true => rfl
            | false => exact absurd hh g2
          refine ih _ (Nat.and_lt_two_pow _ (Nat.pow_lt_pow_right (by decide) hlt)) (fun n => ?_)
          rw [Nat.testBit_and, Bool.and_eq_true, hb n, Nat.testBit_two_pow, decide_eq_true_iff]
          constructor
          · rintro ⟨⟨z1, z2, z3⟩, z4⟩
            refine ⟨z1, z2, fun t' ht' hb' => ?_⟩
            by_cases e : t' = t
            · rw [e]
              exact z4
            · exact z3 t' (by omega) hb'
          · rintro ⟨z1, z2, z3⟩
            exact ⟨⟨z1, z2, fun t' ht' hb' => z3 t' (by omega) hb'⟩, z3 t (by omega) g3⟩
    · exact Nat.xor_lt_two_pow b3 (by rw [Nat.and_comm]; exact Nat.and_lt_two_pow _ b3)
    · intro n
      rw [Nat.testBit_xor, Nat.testBit_and]
      constructor
      · intro z
        refine ⟨?_, ?_, fun t' ht' => absurd ht' (by omega)⟩
        · revert z
          cases (al s).testBit n <;> simp
        · revert z
          cases (al s).testBit n <;> cases so.testBit n <;> simp
      · rintro ⟨z1, z2, -⟩
        rw [z1, z2]
        rfl
  unfold BX5_enter_s PX6_isBesideTheOneAhead BX6_isBesideTheOneAhead_s
  rw [cl_nI (show s < 2147483648 by omega)]
  refine ⟨vp_in_nI (by omega) (by omega), ?_⟩
  have zero : (∀ x, x < s → ¬ pg x = pg s) → SO Z pg a s 0 := fun z => ⟨Nat.two_pow_pos _, fun n => by
    simp
    intro x hx hp
    exact absurd hp (z x hx)⟩
  rw [show ((0 : Int32)) = nI 0 from rfl, le_nI (by omega) (by omega)]
  refine ⟨fun g => ⟨fun _ => step 0 (zero (fun x hx => by omega)), fun g2 => absurd rfl g2⟩, fun g => ?_⟩
  rw [show (1 : Int32) = nI 1 from rfl, pk_sub (by omega), cl_nI (show s - 1 < 2147483648 by omega)]
  have e1 : (sX X 43 s (nI 0)) 32 s = nI (pg s) := by rw [sX_ne (by decide), fr 32 (by omega)]; exact b2
  obtain ⟨d1, d2, -⟩ := hsl (s - 1) (by omega)
  have e2 : (sX X 43 s (nI 0)) 32 (s - 1) = nI (pg (s - 1)) := by rw [sX_ne (by decide), fr 32 (by omega)]; exact d2
  rw [e1, e2, eq_nI (by omega) (by omega)]
  refine ⟨vp_in_nI (by omega) (by omega), vp_in_nI (by omega) (by omega), fun g2 => ⟨fun _ => step 0 (zero (fun x hx hp => ?_)), fun g3 => absurd rfl g3⟩, fun g2 => ⟨fun g3 => absurd g3 (by decide), fun _ => ⟨vp_in_nI (by omega) (by omega), vp_in_nI (by omega) (by omega), ?_⟩⟩⟩
  · have h1 := hmono x (s - 1) (by omega) (by omega)
    have h2 := hmono (s - 1) s (by omega) hs
    omega
  · obtain ⟨so, f1, f2, f3⟩ := hso (by omega)
    have g42 := hg (s - 1) (by omega)
    have e3 : (sX X 43 s (nI 0)) 42 (s - 1) = nI (a (s - 1) - 1) := by rw [sX_ne (by decide)]; exact g42.1
    have e4 : (sX X 43 s (nI 0)) 44 (s - 1) = nI so := by rw [sX_ne (by decide)]; exact f1
    rw [e3, e4]
    refine s_shutOutBy h (cX.set (by omega)) g42.2 ?_
    rw [bx_or]
    refine step _ ⟨Nat.or_lt_two_pow f2 (Nat.or_lt_two_pow (Nat.pow_lt_pow_right (by decide) g42.2) (i_nv h).1), fun n => ?_⟩
    rw [Nat.testBit_or, Nat.testBit_or, Bool.or_eq_true, Bool.or_eq_true, f3 n, Nat.testBit_two_pow, decide_eq_true_iff]
    constructor
    · rintro (⟨x, z1, z2, z3⟩ | z)
      · exact ⟨x, by omega, by omega, z3⟩
      · exact ⟨s - 1, by omega, by omega, z⟩
    · rintro ⟨x, z1, z2, z3⟩
      by_cases e : x = s - 1
      · subst e
        exact Or.inr z3
      · exact Or.inl ⟨x, by omega, by omega, z3⟩
theorem s_give (h : Inv Z) (c : FR Z X) {s n fn : Nat} {P : Int64} (hs : s < 18) (hn : n < dN Z) (hf : fn < 19) (e10 : X 39 10 = nI fn) (hp : 0 < s → X 46 (s - 1) = nI (orM (fun j => 2 ^ (a j - 1)) s) ∧ Y 47 (s - 1) = P) (hp0 : s = 0 → P = 1) (hq : ∀ (U : XT) (V : YT), (∀ q, q ≠ 39 → q ≠ 42 → q ≠ 46 → U q = X q) → (∀ j, j ≠ 10 → U 39 j = X 39 j) → U 39 10 = nI (min s fn) → U 42 = upd (X 42) s (nI n) → U 46 = upd (X 46) s (nI (orM (fun j => 2 ^ (a j - 1)) s ||| 2 ^ n)) → V = sY Y 47 s (P * (Z 55 n).toInt64) → QV U V) : PX5_give (nI s) (nI n) X Y QV := by
  intro I40 h40
  have hN := i_N h
  unfold BX5_give_s
  refine ⟨vp_in_nI (by omega) (by omega), fun X1 e1 => ?_⟩
  have e2 : (sX X 42 s (nI n)) 39 10 = nI fn := by rw [sX_ne (by decide)]; exact e10
  have e3 : (if nI s < nI fn then nI s else nI fn) = nI (min s fn) := by
    by_cases g : s < fn
    · rw [if_pos (by rw [i_lt, le_nI (by omega) (by omega)]; omega), Nat.min_eq_left (by omega)]
    · rw [if_neg (by rw [i_lt, le_nI (by omega) (by omega)]; omega), Nat.min_eq_right (by omega)]
  rw [cl_nI (by omega), e2, e3] at e1
  have w : ∀ t0 : Int32, t0 = nI (orM (fun j => 2 ^ (a j - 1)) s) → I40 (nI s) (nI n) t0 (nI s) X1 Y := by
    intro t0 ht0
    apply h40
    unfold BX5_give_40
    refine ⟨vp_in_nI (by omega) (by omega), fun X2 e4 => ?_⟩
    rw [cl_nI (by omega), ht0, bx_1shl (by omega), bx_or] at e4
    have e11 : X2 11 n = Z 55 n := by rw [e4, sX_ne (by decide), e1, sX_ne (by decide), sX_ne (by decide), c.lo (by omega), c_11 h]
    rw [cl_nI (show n < 2147483648 by omega), e11, cl_nI (show s < 2147483648 by omega), show (0 : Int32) = nI 0 from rfl, le_nI (by omega) (by omega)]
    have out : ∀ V : YT, V = sY Y 47 s (P * (Z 55 n).toInt64) → QV X2 V := by
      intro V hV
      refine hq X2 V (fun q h1 h2 h3 => ?_) (fun j hj => ?_) ?_ ?_ ?_ hV
      · rw [e4, sX_ne h3, e1, sX_ne h1, sX_ne h2]
      · rw [e4, sX_ne (by decide), e1, sX_eq, sX_ne (by decide)]
        unfold upd
        rw [if_neg hj]
      · rw [e4, sX_ne (by decide), e1, sX_eq]
        simp [upd]
      · rw [e4, sX_ne (by decide), e1, sX_ne (by decide), sX_eq]
      · rw [e4, sX_eq, e1, sX_ne (by decide), sX_ne (by decide)]
    refine ⟨fun g => ⟨vp_in_nI (by omega) (by omega), vp_in_nI (by omega) (by omega), fun V hV => out V ?_⟩, fun g => ?_⟩
    · rw [hV, hp0 (by omega)]
    · rw [show (1 : Int32) = nI 1 from rfl, pk_sub (by omega), cl_nI (show s - 1 < 2147483648 by omega), (hp (by omega)).2]
      exact ⟨vp_in_nI (by omega) (by omega), vp_in_nI (by omega) (by omega), vp_in_nI (by omega) (by omega), fun V hV => out V hV⟩
  rw [show (0 : Int32) = nI 0 from rfl, le_nI (by omega) (by omega)]
  refine ⟨fun g => w _ ?_, fun g => ?_⟩
  · have : s = 0 := by omega
    rw [this]
    rfl
  · rw [show (1 : Int32) = nI 1 from rfl, pk_sub (by omega), cl_nI (show s - 1 < 2147483648 by omega)]
    refine ⟨vp_in_nI (by omega) (by omega), w _ ?_⟩
    rw [e1, sX_ne (by decide), sX_ne (by decide)]
    exact (hp (by omega)).1
/-- the tally -/
def Tal (Z : XT) (m : Nat) (rs : List (Nat → Nat)) (X : XT) (Y : YT) : Prop := X 40 1 = nI rs.length ∧ X 40 2 = nI (tEach m 1023 rs) ∧ (∀ s, s < m → X 41 s = nI (tMay s rs)) ∧ Y 40 3 = tAll (Z 55) m rs ∧ ∀ b n, X 40 5 = nI b → X 40 6 = nI n → b < m → n < 10 → Y 40 4 = tPart (Z 55) m b n rs
theorem or_in {x n : Nat} (h : x.testBit n = true) : x ||| 2 ^ n = x := by
  apply Nat.eq_of_testBit_eq
  intro i
  rw [Nat.testBit_or, Nat.testBit_two_pow]
  by_cases e : n = i
  · subst e
    rw [h]
    rfl
  · simp [e]
theorem s_talAdd {A P : Nat} {W : Int64} {as : Bool} (hq : ∀ (U : XT) (V : YT), (∀ q, q ≠ 40 → U q = X q) → (∀ j, j ≠ 1 → j ≠ 2 → U 40 j = X 40 j) → (∀ l, X 40 1 = nI l → U 40 1 = nI (l + 1)) → (∀ e, X 40 2 = nI e → U 40 2 = nI (e &&& A)) → V 40 3 = Y 40 3 + W → V 40 4 = Y 40 4 + (if as then W else 0) → V 47 = Y 47 → QV U V) : PX7_add (nI A) W (nI as.toNat) X Y QV := by
  unfold PX7_add BX7_add_s
  intro X1 e1
  have out : ∀ V : YT, V = sY (sY Y 40 3 (Y 40 3 + W)) 40 4 ((sY Y 40 3 (Y 40 3 + W)) 40 4 + (if as then W else 0)) → QV X1 V := by
    intro V hV
    refine hq X1 V (fun q h1 => by rw [e1, sX_ne h1, sX_ne h1]) (fun j h1 h2 => ?_) (fun l hl => ?_) (fun e he => ?_) ?_ ?_ ?_
    · rw [e1, sX_eq, sX_eq]
      unfold upd
      rw [if_neg h2, if_neg h1]
    · rw [e1, sX_eq, sX_eq]
      unfold upd
      rw [if_neg (by decide), if_pos rfl, hl, nI_1]
    · rw [e1, sX_eq, sX_eq]
      unfold upd
      rw [if_pos rfl, if_neg (by decide), he, bx_and]
    · rw [hV, sY_eq, sY_eq]
      simp [vp_updL]
    · rw [hV, sY_eq, sY_eq]
      simp [vp_updL]
    · rw [hV, sY_ne (by decide), sY_ne (by decide)]
  cases as with
  | false => exact ⟨fun _ V hV => out V hV, fun g => absurd rfl g⟩
  | true => exact ⟨fun g => absurd g (by decide), fun _ V hV => out V hV⟩
theorem s_takeReading (h : Inv Z) (hm : m ≤ 18) {s fn : Nat} {rs : List (Nat → Nat)} {r : Nat → Nat} (hs : s + 1 = m) (hfn : fn ≤ m) (hr : ∀ j, j < m → 1 ≤ r j ∧ r j ≤ dN Z) (t : Tal Z m rs X Y) (e10 : X 39 10 = nI fn) (hg : ∀ j, j < m → X 42 j = nI (r j - 1)) (hf : ∀ j, j < fn → (tMay j rs).testBit (r j - 1) = true) (e46 : X 46 s = nI (tSet r m)) (e47 : Y 47 s = tProd (Z 55) r m) (hq : ∀ (U : XT) (V : YT), (∀ q, q ≠ 39 → q ≠ 40 → q ≠ 41 → U q = X q) → (∀ j, j ≠ 10 → U 39 j = X 39 j) → U 39 10 = nI m → U 40 5 = X 40 5 → U 40 6 = X 40 6 → V 47 = Y 47 → Tal Z m (r :: rs) U V → QV U V) : PX5_takeReading (nI s) X Y QV := by
  intro I5 I80 I81 h5 h80 h81
  have hN := i_N h
  unfold BX5_takeReading_s
  intro w1 e1
  rw [e10] at e1
  subst e1
  obtain ⟨t1, t2, t3, t4, t5⟩ := t
  refine dn (n := m) (P := fun k => fn ≤ k → ∀ U : XT, (∀ q, q ≠ 41 → U q = X q) → (∀ j, j < m → U 41 j = if j < k then nI (tMay j (r :: rs)) else nI (tMay j rs)) → I5 (nI s) (nI k) U Y) ?_ ?_ fn hfn (Nat.le_refl _) X (fun _ _ => rfl) (fun j hj => ?_)
  · intro _ U u1 u2
    apply h5
    unfold BX5_takeReading_5
    rw [i_lt, le_nI (by omega) (by omega)]
    refine ⟨fun _ w2 e2 => ?_, fun g => absurd (by omega) g⟩
    rw [sX_ne (by decide), u1 40 (by decide)] at e2
    subst e2
    have fin : ∀ as : Bool, (∀ b n, X 40 5 = nI b → X 40 6 = nI n → b < m → n < 10 → (as = true ↔ r b - 1 = n)) → I81 (nI s) (nI as.toNat) (sX U 39 10 (nI s + 1)) Y := by
      intro as has
      apply h81
      unfold BX5_takeReading_81
      rw [cl_nI (by omega), sX_ne (by decide), u1 46 (by decide), e46, e47]
      refine ⟨vp_in_nI (by omega) (by omega), vp_in_nI (by omega) (by omega), s_talAdd (P := 0) (fun W V w1 w2 w3 w4 v1 v2 v3 => ?_)⟩
      have x40 : ∀ j, (sX U 39 10 (nI s + 1)) 40 j = X 40 j := fun j => by rw [sX_ne (by decide), u1 40 (by decide)]
      refine hq W V (fun q h1 h2 h3 => by rw [w1 q h2, sX_ne h1, u1 q h3]) (fun j hj => ?_) ?_ ?_ ?_ v3 ⟨?_, ?_, fun j hj => ?_, ?_, fun b n hb hn hbm hn10 => ?_⟩
      · rw [w1 39 (by decide), sX_eq, u1 39 (by decide)]
        unfold upd
        rw [if_neg hj]
      · rw [w1 39 (by decide), sX_eq]
        unfold upd
        rw [if_pos rfl, nI_1, hs]
      · rw [w2 5 (by decide) (by decide), x40]
      · rw [w2 6 (by decide) (by decide), x40]
      · exact w3 _ (by rw [x40]; exact t1)
      · exact w4 _ (by rw [x40]; exact t2)
      · rw [w1 41 (by decide), sX_ne (by decide), u2 j hj, if_pos hj]
      · rw [v1, t4]
        rfl
      · rw [w2 5 (by decide) (by decide), x40] at hb
        rw [w2 6 (by decide) (by decide), x40] at hn
        rw [v2, t5 b n hb hn hbm hn10]
        show _ = tPart (Z 55) m b n rs + _
        congr 1
        by_cases e : r b - 1 = n
        · rw [if_pos ((has b n hb hn hbm hn10).mpr e), if_pos e]
        · rw [if_neg (fun z => e ((has b n hb hn hbm hn10).mp z)), if_neg e]
    have e40 : (sX U 39 10 (nI s + 1)) 40 6 = X 40 6 := by rw [sX_ne (by decide), u1 40 (by decide)]
    rw [eq_within]
    simp only [bI_0, Classical.not_not]
    refine ⟨fun g => ?_, fun g => ?_⟩
    · apply h80
      refine fin false (fun b n hb hn hbm _ => ?_)
      rw [hb, show (0 : Int32) = nI 0 from rfl, le_nI (by omega) (by omega), le_nI (by omega) (by omega)] at g
      omega
    · obtain ⟨b, hb, eb⟩ := kn_of (p := X 40 5) (N := m) (by omega) (by rw [show (1 : Int32) = nI 1 from rfl, pk_sub (by omega), show m - 1 = s by omega]; exact g)
      rw [eb, cl_nI (by omega), sX_ne (by decide), u1 42 (by decide), hg b hb, sX_ne (by decide), u1 40 (by decide)]
      have hrb := hr b hb
      refine ⟨vp_in_nI (by omega) (by omega), fun g2 => ?_, fun g2 => ?_⟩
      · apply h80
        refine fin false (fun b' n hb' hn' hbm hn10 => ?_)
        rw [eb, eq_nI (by omega) (by omega)] at hb'
        subst hb'
        rw [hn', eq_nI (by omega) (by omega)] at g2
        simp [g2]
      · refine fin true (fun b' n hb' hn' hbm hn10 => ?_)
        rw [eb, eq_nI (by omega) (by omega)] at hb'
        subst hb'
        rw [hn', eq_nI (by omega) (by omega)] at g2
        simp [g2]
  · intro k hk ih hfk U u1 u2
    apply h5
    unfold BX5_takeReading_5
    have hrk := hr k hk
    rw [i_lt, le_nI (by omega) (by omega), cl_nI (by omega), u2 k hk, if_neg (by omega), u1 42 (by decide), hg k hk, bx_1shl (by omega), bx_or]
    refine ⟨fun g => absurd (by omega) g, fun _ => ⟨vp_in_nI (by omega) (by omega), vp_in_nI (by omega) (by omega), vp_in_nI (by omega) (by omega), fun X10 e10 w hw => ?_⟩⟩
    rw [hw, nI_1, e10]
    refine ih (by omega) _ (fun q hq => by rw [sX_ne hq]; exact u1 q hq) (fun j hj => ?_)
    rw [sX_eq]
    unfold upd
    by_cases e : j = k
    · rw [if_pos e, if_pos (by omega), e]
      rfl
    · rw [if_neg e, u2 j hj]
      by_cases e2 : j < k
      · rw [if_pos e2, if_pos (by omega)]
      · rw [if_neg e2, if_neg (by omega)]
  · rw [t3 j hj]
    by_cases e : j < fn
    · rw [if_pos e]
      show _ = nI (tMay j rs ||| 2 ^ (r j - 1))
      rw [or_in (hf j e)]
    · rw [if_neg e]
end CLS
