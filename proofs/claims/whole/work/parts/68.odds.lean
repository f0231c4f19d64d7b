/-! on, odds -/
theorem tEach_bit {m e n : Nat} : ∀ {rs : List (Nat → Nat)}, (tEach m e rs).testBit n = true ↔ e.testBit n = true ∧ ∀ r ∈ rs, (tSet r m).testBit n = true
  | [] => by simp [tEach]
  | r :: rs => by
    show (tEach m e rs &&& tSet r m).testBit n = true ↔ _
    rw [Nat.testBit_and, Bool.and_eq_true, tEach_bit (rs := rs)]
    constructor
    · rintro ⟨⟨z1, z2⟩, z3⟩
      refine ⟨z1, fun r' hr => ?_⟩
      rcases List.mem_cons.mp hr with y | y
      · rw [y]
        exact z3
      · exact z2 r' y
    · rintro ⟨z1, z2⟩
      exact ⟨⟨z1, fun r' hr => z2 r' (List.mem_cons_of_mem _ hr)⟩, z2 r (List.mem_cons_self ..)⟩
theorem tSet_bit {m n : Nat} {r : Nat → Nat} : (tSet r m).testBit n = true ↔ ∃ s, s < m ∧ r s - 1 = n := by
  unfold tSet
  rw [orM_bit]
  constructor
  · rintro ⟨s, z1, z2⟩
    rw [Nat.testBit_two_pow, decide_eq_true_iff] at z2
    exact ⟨s, z1, z2⟩
  · rintro ⟨s, z1, z2⟩
    exact ⟨s, z1, by rw [Nat.testBit_two_pow, decide_eq_true_iff]; exact z2⟩
theorem tMay_bit {s n : Nat} : ∀ {rs : List (Nat → Nat)}, (tMay s rs).testBit n = true ↔ ∃ r ∈ rs, r s - 1 = n
  | [] => by simp [tMay]
  | r :: rs => by
    show (tMay s rs ||| 2 ^ (r s - 1)).testBit n = true ↔ _
    rw [Nat.testBit_or, Bool.or_eq_true, tMay_bit (rs := rs), Nat.testBit_two_pow, decide_eq_true_iff]
    constructor
    · rintro (⟨r', z1, z2⟩ | z)
      · exact ⟨r', List.mem_cons_of_mem _ z1, z2⟩
      · exact ⟨r, List.mem_cons_self .., z⟩
    · rintro ⟨r', z1, z2⟩
      rcases List.mem_cons.mp z1 with y | y
      · rw [y] at z2
        exact Or.inr z2
      · exact Or.inl ⟨r', y, z2⟩
theorem tSome_bit {m n : Nat} : ∀ {rs : List (Nat → Nat)}, (tSome m rs).testBit n = true ↔ ∃ r ∈ rs, ∃ s, s < m ∧ r s - 1 = n
  | [] => by simp [tSome]
  | r :: rs => by
    show (tSome m rs ||| tSet r m).testBit n = true ↔ _
    rw [Nat.testBit_or, Bool.or_eq_true, tSome_bit (rs := rs), tSet_bit]
    constructor
    · rintro (⟨r', z1, z2⟩ | z)
      · exact ⟨r', List.mem_cons_of_mem _ z1, z2⟩
      · exact ⟨r, List.mem_cons_self .., z⟩
    · rintro ⟨r', z1, z2⟩
      rcases List.mem_cons.mp z1 with y | y
      · rw [y] at z2
        exact Or.inr z2
      · exact Or.inl ⟨r', y, z2⟩
theorem some_may {m : Nat} {rs : List (Nat → Nat)} : orM (fun s => tMay s rs) m = tSome m rs := by
  apply Nat.eq_of_testBit_eq
  intro n
  apply Bool.eq_iff_iff.mpr
  rw [orM_bit, tSome_bit]
  constructor
  · rintro ⟨s, z1, z2⟩
    obtain ⟨r, y1, y2⟩ := tMay_bit.mp z2
    exact ⟨r, y1, s, z1, y2⟩
  · rintro ⟨r, y1, s, z1, y2⟩
    exact ⟨s, z1, tMay_bit.mpr ⟨r, y1, y2⟩⟩
theorem each_alike {m N e n : Nat} (hN : N ≤ 10) (hn : n < N) (he : m = 0 ∨ e = 2 ^ N - 1) {rs : List (Nat → Nat)} (hl : 0 < rs.length) : (tEach m e rs).testBit n = (tEach m 1023 rs).testBit n := by
  apply Bool.eq_iff_iff.mpr
  rw [tEach_bit, tEach_bit, show (1023 : Nat) = 2 ^ 10 - 1 by decide, Nat.testBit_two_pow_sub_one, decide_eq_true_iff]
  cases rs with
  | nil => simp at hl
  | cons r rs =>
    rcases he with he | he
    · have : ¬ (tSet r m).testBit n = true := by
        rw [tSet_bit]
        rintro ⟨s, z, _⟩
        omega
      exact ⟨fun z => absurd (z.2 r (List.mem_cons_self ..)) this, fun z => absurd (z.2 r (List.mem_cons_self ..)) this⟩
    · rw [he, Nat.testBit_two_pow_sub_one, decide_eq_true_iff]
      exact ⟨fun z => ⟨by omega, z.2⟩, fun z => ⟨hn, z.2⟩⟩
theorem tEach_lt {m e : Nat} (he : e < 1024) : ∀ {rs : List (Nat → Nat)}, tEach m e rs < 1024
  | [] => he
  | r :: rs => Nat.lt_of_le_of_lt Nat.and_le_left (tEach_lt he (rs := rs))
def onR (Z : XT) (n : Nat) : Int32 := if (spm Z (pA Z) 0 (dK Z)).testBit n = true then 2 else if (srA Z (cl Z 48 9) 0 3000).1 = true then -1005 else if 0 < (srA Z (cl Z 48 9) 0 3000).2.length ∧ (tEach (nsl Z (pA Z) 0) 1023 (srA Z (cl Z 48 9) 0 3000).2).testBit n = true then 2 else nI ((tSome (nsl Z (pA Z) 0) (srA Z (cl Z 48 9) 0 3000).2).testBit n).toNat
section ON
variable {Z X : XT} {Y : YT} {Q : Int32 → XT → YT → Prop} {QV : XT → YT → Prop} {K : XT → YT → Prop} {a b c : Int32} {m : Nat} {rs : List (Nat → Nat)}
theorem s_inSome (hm : m ≤ 18) (e : ∀ s, s < m → X 41 s = nI (tMay s rs)) (hq : Q (nI (tSome m rs)) X Y) : PX7_inSome (nI m) X Y Q := by
  intro I4 h4
  unfold BX7_inSome_s
  rw [← some_may] at hq
  refine dn (n := m) (P := fun k => I4 (nI m) (nI (orM (fun s => tMay s rs) k)) (nI k) X Y) ?_ ?_ 0 (by omega)
  · apply h4
    unfold BX7_inSome_4
    rw [le_nI (by omega) (by omega)]
    exact ⟨fun _ => hq, fun g => absurd (by omega) g⟩
  · intro k hk ih
    apply h4
    unfold BX7_inSome_4
    rw [le_nI (by omega) (by omega), show (18 : Int32) = nI 18 from rfl, le_nI (by omega) (by omega), cl_nI (by omega), e k hk]
    refine ⟨fun g => absurd g (by omega), fun _ => ⟨fun g => absurd g (by omega), fun _ => ⟨vp_in_nI (by omega) (by omega), fun w1 e1 w2 e2 => ?_⟩⟩⟩
    rw [e2, nI_1, e1, bx_or]
    exact ih
theorem shown_iff (h : Inv Z) {n : Nat} (hn : n < dN Z) : (spm Z (pA Z) 0 (dK Z)).testBit n = true ↔ ∃ p, p < dK Z ∧ Z 62 p = nI n := by
  have hN := (i_N h).1
  rw [spm_bit]
  constructor
  · rintro ⟨p, z1, z2, z3, z4⟩
    refine ⟨p, z1, ?_⟩
    rcases i_sh h z1 with y | y
    · unfold hidB at z3
      simp [y] at z3
    · rw [y.2, z4]
  · rintro ⟨p, z1, z2⟩
    refine ⟨p, z1, ?_, ?_, cl_of (by omega) z2⟩
    · rw [pA_bit]
      exact decide_eq_true (i_pg h z1).1
    · unfold hidB
      rw [z2]
      simp [nI_ne1 (show n < 2147483648 by omega)]
theorem s_isShownM (h : Inv Z) (cx : FR Z X) {n : Nat} (hn : n < dN Z) (hq : ∀ r, TV r ((spm Z (pA Z) 0 (dK Z)).testBit n = true) → Q r X Y) : PX10_isShown (nI n) X Y Q := by
  intro I4 h4
  have hK := i_K h
  unfold BX10_isShown_s
  have st : ∀ k, (∃ p, p < k + 1 ∧ Z 62 p = nI n) ↔ (∃ p, p < k ∧ Z 62 p = nI n) ∨ Z 62 k = nI n := by
    intro k
    constructor
    · rintro ⟨p, z1, z2⟩
      by_cases e : p = k
      · subst e
        exact Or.inr z2
      · exact Or.inl ⟨p, by omega, z2⟩
    · rintro (⟨p, z1, z2⟩ | z2)
      · exact ⟨p, by omega, z2⟩
      · exact ⟨k, by omega, z2⟩
  refine dn (n := dK Z) (P := fun k => ∀ a2, TV a2 (∃ p, p < k ∧ Z 62 p = nI n) → I4 (nI n) a2 (nI k) X Y) ?_ ?_ 0 (by omega) 0 (TV.f (fun ⟨p, hp, _⟩ => absurd hp (by omega)))
  · intro a2 ha
    apply h4
    unfold BX10_isShown_4
    rw [cx.2 16 (by omega), hK.2, le_nI (by omega) (by omega)]
    exact ⟨fun _ => ⟨ha.nar, hq a2 (ha.mp (shown_iff h hn).symm)⟩, fun g => absurd (by omega) g⟩
  · intro k hk ih a2 ha
    apply h4
    unfold BX10_isShown_4
    rw [cx.2 16 (by omega), hK.2, le_nI (by omega) (by omega), cl_nI (by omega), cx.hi (by omega) (by omega)]
    refine ⟨fun g => absurd g (by omega), fun _ => ⟨fun g w hw => ?_, fun g => ⟨vp_in_nI (by omega) (by omega), fun g2 w hw => ?_, fun g2 w hw => ?_⟩⟩⟩
    · rw [hw, nI_1]
      rw [ha.z] at g
      exact ih 1 (TV.t ((st k).mpr (Or.inl (Classical.not_not.mp g))))
    · rw [hw, nI_1]
      rw [ha.z] at g
      exact ih 0 (TV.f (fun z => ((st k).mp z).elim g g2))
    · rw [hw, nI_1]
      exact ih 1 (TV.t ((st k).mpr (Or.inr g2)))
theorem pr_on (h : Inv X) (hK : ∀ X2 Y2, Inv X2 → K X2 Y2) : PX9_on a X Y (fun r X1 Y1 => PX10_on a X1 Y1 (Kq K r)) := by
  have hN := i_N h
  have hP := i_P h
  have hA := pA_lt h
  have ok := srch_ok (m := nsl X (pA X) 0) (N := dN X) (w := 3000) (ok := okS (fun s => cl X 60 (pls X (pA X) 0 s)) (alR X (cl X 48 9) 0) (cl X 56) (twB X (pA X) 0)) (nsl_le h)
  have len : (srA X (cl X 48 9) 0 3000).2.length ≤ 3000 := ok.2.1
  have el : (nI (srA X (cl X 48 9) 0 3000).2.length ≤ 0) = ((srA X (cl X 48 9) 0 3000).2.length ≤ 0) := le_nI (b := 0) (by omega) (by omega)
  intro I96 h96
  unfold BX9_on_s
  rw [eq_isKnown, c_n h, hN.2]
  simp only [bI_0, Classical.not_not]
  refine ⟨fun g => ?_, fun g => ?_⟩
  · obtain ⟨n, hn, rfl⟩ := kn_of (N := dN X) (by omega) g
    have ref : ∀ U V, FR X U → PX10_on (nI n) U V (Kq K (onR X n)) := by
      intro U V cU
      unfold PX10_on BX10_on_s
      rw [eq_noName, cU.2 1 (by omega), hN.2]
      simp only [bI_0, Classical.not_not]
      refine ⟨fun _ => s_isShownM h cU hn (fun r hr => ?_), fun z => absurd g z⟩
      rw [hr.z]
      refine ⟨fun g2 => s_goM0 h cU (fun ret W V' e => ?_), fun g2 => kq ?_ (hK _ _ (inv_FR h cU))⟩
      · obtain ⟨e1, e2, e3, ⟨e0, e6, e4⟩, e5⟩ := e
        have l1 : tSome (nsl X (pA X) 0) (srA X (cl X 48 9) 0 3000).2 < 2 ^ dN X := by
          rw [← some_may]
          exact orM_lt _ (fun s hs => tMay_lt hs ok.1)
        have l2 := pow_le_1024 hN.1 l1
        rw [ret_0 e1, e4.1, el, e4.2.1, e4.2.2.1, bx_bit (by omega) (by omega)]
        have fin := hK _ V' (inv_FR h e2)
        refine ⟨fun g3 => ⟨fun g4 => kq ?_ fin, fun g4 => ?_⟩, fun g3 => kq ?_ fin⟩
        · unfold onR
          rw [if_neg g2, if_neg g3, if_neg (by omega)]
        · have el3 : tEach (nsl X (pA X) 0) e0 (srA X (cl X 48 9) 0 3000).2 < 2147483648 := by
            have : tEach (nsl X (pA X) 0) e0 (srA X (cl X 48 9) 0 3000).2 < 2 ^ dN X := by
              cases hrs : (srA X (cl X 48 9) 0 3000).2 with
              | nil =>
                rw [hrs] at g4
                simp at g4
              | cons r rest =>
                show tEach _ _ rest &&& tSet r _ < _
                exact Nat.lt_of_le_of_lt Nat.and_le_right (tSet_lt (ok.1 r (by rw [show (srch (nsl X (pA X) 0) (dN X) 3000 (okS (fun s => cl X 60 (pls X (pA X) 0 s)) (alR X (cl X 48 9) 0) (cl X 56) (twB X (pA X) 0))).2 = r :: rest from hrs]; exact List.mem_cons_self ..)))
            have := pow_le_1024 hN.1 this
            omega
          rw [bx_bit1 el3 (by omega), each_alike hN.1 hn e6 (by omega)]
          refine ⟨fun g5 => kq ?_ fin, fun g5 => kq ?_ fin⟩
          · unfold onR
            rw [if_neg g2, if_neg g3, if_neg (fun z => g5 z.2)]
          · unfold onR
            rw [if_neg g2, if_neg g3, if_pos ⟨by omega, g5⟩]
        · unfold onR
          rw [if_neg g2, if_pos g3]
      · unfold onR
        rw [if_pos (Classical.not_not.mp g2)]
    rw [eq_allBelow, c_P h, hP.2, bx_below (by omega)]
    have ls := spm_lt (ps := pA X) (bs := 0) h
    have ls2 := pow_le_1024 hN.1 ls
    refine s_shownOn (ps := pA X) (bs := 0) h FR.refl (by omega) (by omega) ?_
    rw [eq_has]
    simp only [bI_0, Classical.not_not]
    rw [bx_bit0 (by omega) (by omega)]
    refine ⟨fun g2 => s_goC (rd := 0) (w := 3000) h FR.refl (by omega) (show 3000 < 2147483648 by omega) (fun A U V ch _ e => ?_), fun g2 => ?_⟩
    · have ef := e.fr ch
      obtain ⟨e1, e2, e3, e4, e5⟩ := id e
      have l1 : tSome (nsl X (pA X) 0) (srA X (cl X 48 9) 0 3000).2 < 2 ^ dN X := by
        rw [← some_may]
        exact orM_lt _ (fun s hs => tMay_lt hs ok.1)
      have l2 := pow_le_1024 hN.1 l1
      have g2' : ¬ (spm X (pA X) 0 (dK X)).testBit n = true := by rw [g2]; decide
      have s96 : ¬ (0 < (srA X (cl X 48 9) 0 3000).2.length ∧ (tEach (nsl X (pA X) 0) 1023 (srA X (cl X 48 9) 0 3000).2).testBit n = true) → ¬ (srA X (cl X 48 9) 0 3000).1 = true → I96 (nI n) U V := by
        intro hn1 hn2
        apply h96
        unfold BX9_on_96
        rw [ef.2]
        refine s_inSome (nsl_le h) e4.2.2.1 ?_
        rw [eq_has]
        simp only [bI_0, Classical.not_not]
        rw [bx_bit0 (by omega) (by omega)]
        have r := ref U V ef.1
        have eo : onR X n = nI ((tSome (nsl X (pA X) 0) (srA X (cl X 48 9) 0 3000).2).testBit n).toNat := by
          unfold onR
          rw [if_neg g2', if_neg hn2, if_neg hn1]
        rw [eo] at r
        refine ⟨fun z => ?_, fun z => ?_⟩
        · rw [z] at r
          exact r
        · rw [bfl z] at r
          exact r
      rw [e3, bt0, e4.1, el, e4.2.1, eq_has]
      simp only [bI_0, Classical.not_not]
      have lE := tEach_lt (m := nsl X (pA X) 0) (e := 1023) (by omega) (rs := (srA X (cl X 48 9) 0 3000).2)
      rw [bx_bit0 (by omega) (by omega)]
      refine ⟨fun g3 => ⟨fun g4 => s96 (by omega) (by rw [g3]; decide), fun g4 => ⟨fun g5 => s96 (fun z => by rw [g5] at z; cases z.2) (by rw [g3]; decide), fun g5 => ?_⟩⟩, fun g3 => ?_⟩
      · have r := ref U V ef.1
        have eo : onR X n = 2 := by
          unfold onR
          rw [if_neg g2', if_neg (by rw [g3]; decide), if_pos ⟨by omega, bfl g5⟩]
        rw [eo] at r
        exact r
      · have r := ref U V ef.1
        have eo : onR X n = -1005 := by
          unfold onR
          rw [if_neg g2', if_pos (bfl g3)]
        rw [eo] at r
        exact r
    · have r := ref X Y FR.refl
      have eo : onR X n = 2 := by
        unfold onR
        rw [if_pos (bfl g2)]
      rw [eo] at r
      exact r
  · unfold PX10_on BX10_on_s
    rw [eq_noName, hN.2]
    simp only [bI_0, Classical.not_not]
    exact ⟨fun z => absurd z g, fun _ => kq rfl (hK _ _ h)⟩
end ON
/-! odds: numbers that are no greater than they look -/
theorem lN_0 {n : Nat} (h : n < 2 ^ 63) : (Int64.ofNat n = 0) = (n = 0) := by
  apply propext
  constructor
  · intro e
    have := congrArg Int64.toInt e
    rw [Int64.toInt_ofNat_of_lt h] at this
    have z : (0 : Int64).toInt = 0 := rfl
    rw [z] at this
    omega
  · intro e
    rw [e]
    rfl
theorem lN_mod {x y : Nat} (hx : x < 2 ^ 63) (hy : y < 2 ^ 63) : Int64.ofNat x - Int64.ofNat x / Int64.ofNat y * Int64.ofNat y = Int64.ofNat (x % y) := by
  rw [← Int64.ofNat_div hx hy, ← Int64.ofNat_mul, ← Int64.ofNat_sub _ _ (Nat.div_mul_le_self x y)]
  congr 1
  have := Nat.div_add_mod x y
  rw [Nat.mul_comm] at this
  omega
theorem gcd_step (x y : Nat) : Nat.gcd x y = Nat.gcd y (x % y) := by
  rw [Nat.gcd_comm x y, Nat.gcd_rec y x, Nat.gcd_comm]
def prodN (w : Nat → Nat) (r : Nat → Nat) : Nat → Nat
  | 0 => 1
  | s + 1 => prodN w r s * w (r s - 1)
def allN (w : Nat → Nat) (m : Nat) : List (Nat → Nat) → Nat
  | [] => 0
  | r :: rs => allN w m rs + prodN w r m
def partN (w : Nat → Nat) (m b n : Nat) : List (Nat → Nat) → Nat
  | [] => 0
  | r :: rs => partN w m b n rs + if r b - 1 = n then prodN w r m else 0
section ODDS
variable {Z X : XT} {Y : YT} {Q : Int64 → XT → YT → Prop} {K : XT → YT → Prop} {a b c : Int32} {m : Nat} {rs : List (Nat → Nat)}
theorem toL {v : Nat} (h : v < 2147483648) : (nI v).toInt64 = Int64.ofNat v := by
  have := Int64.ofNat_int32ToNatClampNeg (nI v) (nI_pos' (by omega))
  rw [cl_nI h] at this
  exact this.symm
theorem prod_ok (h : Inv Z) {r : Nat → Nat} : ∀ m, (∀ s, s < m → 1 ≤ r s ∧ r s ≤ dN Z) → tProd (Z 55) r m = Int64.ofNat (prodN (cl Z 55) r m) ∧ 1 ≤ prodN (cl Z 55) r m ∧ prodN (cl Z 55) r m ≤ 9 ^ m
  | 0, _ => ⟨rfl, Nat.le_refl _, Nat.le_refl _⟩
  | m + 1, hr => by
    obtain ⟨i1, i2, i3⟩ := prod_ok h m (fun s hs => hr s (by omega))
    have hm := hr m (by omega)
    have w := i_wt h (j := r m - 1) (by omega)
    refine ⟨?_, ?_, ?_⟩
    · show tProd (Z 55) r m * (Z 55 (r m - 1)).toInt64 = Int64.ofNat (prodN (cl Z 55) r m * cl Z 55 (r m - 1))
      rw [i1, w.2.2, toL (by omega), Int64.ofNat_mul]
    · exact Nat.mul_pos i2 w.1
    · show prodN (cl Z 55) r m * cl Z 55 (r m - 1) ≤ 9 ^ m * 9
      exact Nat.mul_le_mul i3 (by omega)
theorem all_ok (h : Inv Z) : ∀ {rs : List (Nat → Nat)}, (∀ r ∈ rs, ∀ s, s < m → 1 ≤ r s ∧ r s ≤ dN Z) → tAll (Z 55) m rs = Int64.ofNat (allN (cl Z 55) m rs) ∧ rs.length ≤ allN (cl Z 55) m rs ∧ allN (cl Z 55) m rs ≤ rs.length * 9 ^ m
  | [], _ => ⟨rfl, Nat.le_refl _, by simp [allN]⟩
  | r :: rs, hr => by
    obtain ⟨i1, i2, i3⟩ := all_ok h (rs := rs) (fun r' hr' => hr r' (List.mem_cons_of_mem _ hr'))
    obtain ⟨j1, j2, j3⟩ := prod_ok h m (hr r (List.mem_cons_self ..))
    refine ⟨?_, ?_, ?_⟩
    · show tAll (Z 55) m rs + tProd (Z 55) r m = Int64.ofNat (allN (cl Z 55) m rs + prodN (cl Z 55) r m)
      rw [i1, j1, Int64.ofNat_add]
    · show rs.length + 1 ≤ allN (cl Z 55) m rs + prodN (cl Z 55) r m
      omega
    · show allN (cl Z 55) m rs + prodN (cl Z 55) r m ≤ (rs.length + 1) * 9 ^ m
      rw [Nat.add_mul, Nat.one_mul]
      omega
theorem part_ok (h : Inv Z) {i n : Nat} : ∀ {rs : List (Nat → Nat)}, (∀ r ∈ rs, ∀ s, s < m → 1 ≤ r s ∧ r s ≤ dN Z) → tPart (Z 55) m i n rs = Int64.ofNat (partN (cl Z 55) m i n rs) ∧ partN (cl Z 55) m i n rs ≤ allN (cl Z 55) m rs
  | [], _ => ⟨rfl, Nat.le_refl _⟩
  | r :: rs, hr => by
    obtain ⟨i1, i2⟩ := part_ok h (i := i) (n := n) (rs := rs) (fun r' hr' => hr r' (List.mem_cons_of_mem _ hr'))
    obtain ⟨j1, j2, j3⟩ := prod_ok h m (hr r (List.mem_cons_self ..))
    refine ⟨?_, ?_⟩
    · show tPart (Z 55) m i n rs + (if r i - 1 = n then tProd (Z 55) r m else 0) = Int64.ofNat (partN (cl Z 55) m i n rs + if r i - 1 = n then prodN (cl Z 55) r m else 0)
      rw [i1, Int64.ofNat_add]
      by_cases e : r i - 1 = n
      · rw [if_pos e, if_pos e, j1]
      · rw [if_neg e, if_neg e]
        rfl
    · show partN (cl Z 55) m i n rs + (if r i - 1 = n then prodN (cl Z 55) r m else 0) ≤ allN (cl Z 55) m rs + prodN (cl Z 55) r m
      split <;> omega
theorem s_gcdM : ∀ (y x : Nat), x < 2 ^ 63 → y < 2 ^ 63 → Q (Int64.ofNat (Nat.gcd x y)) X Y → PX10_gcd (Int64.ofNat x) (Int64.ofNat y) X Y Q := by
  intro y x hx hy hq I6 h6
  unfold BX10_gcd_s
  have key : ∀ y, ∀ x, x < 2 ^ 63 → y < 2 ^ 63 → Q (Int64.ofNat (Nat.gcd x y)) X Y → I6 (Int64.ofNat x) (Int64.ofNat y) X Y := by
    intro y
    induction y using Nat.strongRecOn with
    | ind y ih =>
      intro x hx hy hq
      apply h6
      unfold BX10_gcd_6
      rw [cmp_eq, lN_0 hy, lN_mod hx hy]
      refine ⟨fun g => ?_, fun g => ⟨g, fun w e => ?_⟩⟩
      · rw [g, Nat.gcd_zero_right] at hq
        exact hq
      · rw [e]
        have := Nat.mod_lt x (Nat.pos_of_ne_zero g)
        refine ih (x % y) this y hy (by omega) ?_
        rw [← gcd_step]
        exact hq
  exact key y x hx hy hq
theorem s_gcdC {x y : Nat} (hx : x < 2 ^ 63) (hy : y < 2 ^ 60) (hq : Q (Int64.ofNat (Nat.gcd x y)) X Y) : PX9_commonDivisor (Int64.ofNat x) (Int64.ofNat y) X Y Q := by
  intro I9 h9
  unfold BX9_commonDivisor_s
  have key : ∀ j x y st, x < 2 ^ 63 → y < 2 ^ j → j ≤ 60 → st + 2 * j + 2 ≤ 1000 → Q (Int64.ofNat (Nat.gcd x y)) X Y → I9 (Int64.ofNat x) (Int64.ofNat y) (nI st) X Y := by
    intro j
    induction j with
    | zero =>
      intro x y st hx hy hj hst hq
      have : y = 0 := by omega
      subst this
      apply h9
      unfold BX9_commonDivisor_9
      rw [show (100000 : Int32) = nI 100000 from rfl, le_nI (by omega) (by omega), cmp_eq, lN_0 (by omega)]
      rw [Nat.gcd_zero_right] at hq
      exact ⟨fun z => absurd z (by omega), fun _ => ⟨fun _ => hq, fun z => absurd rfl z⟩⟩
    | succ j ih =>
      intro x y st hx hy hj hst hq
      have p60 : (2 : Nat) ^ (j + 1) ≤ 2 ^ 60 := Nat.pow_le_pow_right (by decide) hj
      have e60 : (2 : Nat) ^ 60 = 1152921504606846976 := by decide
      have e63 : (2 : Nat) ^ 63 = 9223372036854775808 := by decide
      apply h9
      unfold BX9_commonDivisor_9
      rw [show (100000 : Int32) = nI 100000 from rfl, le_nI (by omega) (by omega), cmp_eq, lN_0 (by omega), lN_mod hx (by omega)]
      refine ⟨fun z => absurd z (by omega), fun _ => ⟨fun g => ?_, fun g => ⟨g, fun w3 e3 w5 e5 => ?_⟩⟩⟩
      · rw [g, Nat.gcd_zero_right] at hq
        exact hq
      · rw [e3, e5, nI_1]
        have hr := Nat.mod_lt x (Nat.pos_of_ne_zero g)
        rw [gcd_step] at hq
        apply h9
        unfold BX9_commonDivisor_9
        rw [show (100000 : Int32) = nI 100000 from rfl, le_nI (by omega) (by omega), cmp_eq, lN_0 (by omega), lN_mod (by omega) (by omega)]
        refine ⟨fun z => absurd z (by omega), fun _ => ⟨fun g2 => ?_, fun g2 => ⟨g2, fun w3 e3 w5 e5 => ?_⟩⟩⟩
        · rw [g2, Nat.gcd_zero_right] at hq
          exact hq
        · rw [e3, e5, nI_1]
          rw [gcd_step] at hq
          have hr2 := Nat.mod_lt y (Nat.pos_of_ne_zero g2)
          have h2 : 2 * (y % (x % y)) < y := by
            have d := Nat.div_add_mod y (x % y)
            have q1 : 1 ≤ y / (x % y) := (Nat.one_le_div_iff (Nat.pos_of_ne_zero g2)).mpr (by omega)
            have q2 : (x % y) * 1 ≤ (x % y) * (y / (x % y)) := Nat.mul_le_mul_left _ q1
            omega
          have p2 : (2 : Nat) ^ (j + 1) = 2 * 2 ^ j := by rw [Nat.pow_succ, Nat.mul_comm]
          exact ih (x % y) (y % (x % y)) (st + 1 + 1) (by omega) (by omega) (by omega) (by omega) hq
  exact key 60 x y 0 hx hy (Nat.le_refl _) (by omega) hq
abbrev KqL (K : XT → YT → Prop) (r : Int64) : Int64 → XT → YT → Prop := fun r' X2 Y2 => ((lg_cmp r r' = 0 → K X2 Y2) ∧ (¬ lg_cmp r r' = 0 → False))
theorem kqL {r r' : Int64} (h : r = r') (k : K X Y) : KqL K r r' X Y := ⟨fun _ => k, fun n => absurd (by rw [cmp_eq]; exact h) n⟩
theorem pr_odds (h : Inv X) (hK : ∀ X2 Y2, Inv X2 → K X2 Y2) : PX9_odds a b c X Y (fun r X1 Y1 => PX10_odds a b c X1 Y1 (KqL K r)) := by
  have hN := i_N h
  have hB := i_B h
  have ok := srch_ok (m := nsl X (pA X) 0) (N := dN X) (w := 3000) (ok := okS (fun s => cl X 60 (pls X (pA X) 0 s)) (alR X (cl X 48 9) 0) (cl X 56) (twB X (pA X) 0)) (nsl_le h)
  have len : (srA X (cl X 48 9) 0 3000).2.length ≤ 3000 := ok.2.1
  have el : (nI (srA X (cl X 48 9) 0 3000).2.length = 0) = ((srA X (cl X 48 9) 0 3000).2.length = 0) := eq_nI (b := 0) (by omega) (by omega)
  unfold PX9_odds BX9_odds_s
  rw [eq_isBar, c_B h, hB.2.1, eq_isKnown, c_n h, hN.2, eq_within]
  simp only [bI_0, Classical.not_not]
  have bad : ∀ r : Int64, ((¬ (0 ≤ a ∧ a ≤ nI (dB X) - 1) ∧ r = -1001) ∨ ((0 ≤ a ∧ a ≤ nI (dB X) - 1) ∧ ¬ (0 ≤ b ∧ b ≤ nI (dN X) - 1) ∧ r = -1001) ∨ ((0 ≤ a ∧ a ≤ nI (dB X) - 1) ∧ (0 ≤ b ∧ b ≤ nI (dN X) - 1) ∧ ¬ (0 ≤ c ∧ c ≤ 1) ∧ r = -1002)) → PX10_odds a b c X Y (KqL K r) := by
    intro r hr
    unfold PX10_odds BX10_odds_s
    rw [eq_noBar, hB.2.1, eq_noName, hN.2, l64_0, l64_1, eq_in3]
    simp only [bI_0, Classical.not_not]
    rcases hr with ⟨z, e⟩ | ⟨z, y, e⟩ | ⟨z, y, x, e⟩
    · exact ⟨fun _ => kqL e (hK _ _ h), fun g => absurd g z⟩
    · exact ⟨fun g => absurd z g, fun _ => ⟨fun g => absurd g y, fun _ => kqL e (hK _ _ h)⟩⟩
    · exact ⟨fun g => absurd z g, fun _ => ⟨fun _ => ⟨fun g => absurd g x, fun _ => kqL e (hK _ _ h)⟩, fun g => absurd y g⟩⟩
  refine ⟨fun g => bad _ (Or.inl ⟨g, rfl⟩), fun g => ⟨fun g2 => ⟨fun g3 => ?_, fun g3 => bad _ (Or.inr (Or.inr ⟨g, g2, g3, rfl⟩))⟩, fun g2 => bad _ (Or.inr (Or.inl ⟨g, g2, rfl⟩))⟩⟩
  obtain ⟨i, hi, rfl⟩ := kn_of (N := dB X) (by omega) g
  obtain ⟨n, hn, rfl⟩ := kn_of (N := dN X) (by omega) g2
  have m10 : nsl X (pA X) 0 ≤ 10 := by rw [nslA h]; exact hB.1
  have aok := all_ok (m := nsl X (pA X) 0) h (rs := (srA X (cl X 48 9) 0 3000).2) ok.1
  have pok := part_ok (m := nsl X (pA X) 0) (i := i) (n := n) h (rs := (srA X (cl X 48 9) 0 3000).2) ok.1
  have p9 : (9 : Nat) ^ nsl X (pA X) 0 ≤ 9 ^ 10 := Nat.pow_le_pow_right (by decide) m10
  have p9' : (9 : Nat) ^ 10 = 3486784401 := by decide
  have big : allN (cl X 55) (nsl X (pA X) 0) (srA X (cl X 48 9) 0 3000).2 ≤ 3000 * 3486784401 := Nat.le_trans aok.2.2 (Nat.mul_le_mul len (by omega))
  have e60 : (2 : Nat) ^ 60 = 1152921504606846976 := by decide
  have e63 : (2 : Nat) ^ 63 = 9223372036854775808 := by decide
  generalize hT : allN (cl X 55) (nsl X (pA X) 0) (srA X (cl X 48 9) 0 3000).2 = T at aok pok big
  generalize hP : partN (cl X 55) (nsl X (pA X) 0) i n (srA X (cl X 48 9) 0 3000).2 = P at pok
  have ref : ∀ (U : XT) (V : YT) (r : Int64), FR X U → ((srA X (cl X 48 9) 0 3000).1 = true → r = -1005) → (¬ (srA X (cl X 48 9) 0 3000).1 = true → (srA X (cl X 48 9) 0 3000).2.length = 0 → r = -1003) → (¬ (srA X (cl X 48 9) 0 3000).1 = true → ¬ (srA X (cl X 48 9) 0 3000).2.length = 0 → r = if c = 0 then Int64.ofNat P / Int64.ofNat (Nat.gcd T P) else Int64.ofNat T / Int64.ofNat (Nat.gcd T P)) → PX10_odds (nI i) (nI n) c U V (KqL K r) := by
    intro U V r cU r1 r2 r3
    unfold PX10_odds BX10_odds_s
    rw [eq_noBar, cU.2 22 (by omega), hB.2.1, eq_noName, cU.2 1 (by omega), hN.2, l64_0, l64_1, eq_in3]
    simp only [bI_0, Classical.not_not]
    refine ⟨fun z => absurd g z, fun _ => ⟨fun _ => ⟨fun _ => s_goM0 h cU (fun ret W V' e => ?_), fun z => absurd g3 z⟩, fun z => absurd g2 z⟩⟩
    obtain ⟨e1, e2, e3, ⟨e0, _, e4⟩, e5⟩ := e
    have fin := hK _ V' (inv_FR h e2)
    rw [ret_0 e1, e4.1, el]
    refine ⟨fun y => ⟨fun x => s_posOf h e2 e3 hi ?_, fun x => kqL (r2 y x) fin⟩, fun y => kqL (r1 y) fin⟩
    rw [mul10', cl_nI (by omega)]
    refine ⟨vp_in_nI (by omega) (by omega), fun w30 e30 => ?_⟩
    rw [e4.2.2.2.2.2 i n (by rw [nslA h]; exact hi) (by omega), pok.1] at e30
    subst e30
    rw [e4.2.2.2.2.1, aok.1]
    have gp : 0 < Nat.gcd P T := Nat.gcd_pos_of_pos_right _ (by omega)
    have gle : Nat.gcd P T ≤ T := Nat.gcd_le_right _ (by omega)
    refine s_gcdM T P (by omega) (by omega) ?_
    rw [e4.2.2.2.2.1, aok.1]
    have gne : ¬ Int64.ofNat (Nat.gcd P T) = 0 := by rw [lN_0 (by omega)]; omega
    have r3 := r3 y x
    rw [Nat.gcd_comm T P] at r3
    refine ⟨fun z => ⟨gne, kqL ?_ fin⟩, fun z => ⟨gne, kqL ?_ fin⟩⟩
    · rw [r3, if_neg z]
    · rw [r3, if_pos z]
  unfold PX7_ask BX7_ask_s
  have c0 : FR X (sX (sX X 40 5 (nI i)) 40 6 (nI n)) := (FR.refl.set (by omega)).set (by omega)
  refine s_goC (rd := 0) (w := 3000) h c0 (by omega) (show 3000 < 2147483648 by omega) (fun A U V ch a40 e => ?_)
  have ef := e.fr ch
  obtain ⟨e1, e2, e3, e4, e5⟩ := id e
  have u5 : U 40 5 = nI i := by rw [e2.1, a40, sX_eq, sX_eq]; simp [upd]
  have u6 : U 40 6 = nI n := by rw [e2.2, a40, sX_eq]; simp [upd]
  rw [e3, bt0]
  refine ⟨fun y w25 e25 w27 e27 => ?_, fun y => ref U V _ ef.1 (fun _ => rfl) (fun z => absurd (bfl y) z) (fun z => absurd (bfl y) z)⟩
  rw [e4.2.2.2.2 i n u5 u6 (by rw [nslA h]; exact hi) (by omega), pok.1] at e25
  rw [e4.2.2.2.1, aok.1] at e27
  subst e25 e27
  refine s_gcdC (by omega) (by omega) ?_
  rw [e4.1, el, cmp_eq]
  have y' : ¬ (srA X (cl X 48 9) 0 3000).1 = true := by rw [y]; decide
  refine ⟨fun x => ref U V _ ef.1 (fun z => absurd z y') (fun _ _ => rfl) (fun _ z => absurd x z), fun x => ?_⟩
  have gp : 0 < Nat.gcd T P := Nat.gcd_pos_of_pos_left _ (by omega)
  have gle : Nat.gcd T P ≤ T := Nat.gcd_le_left _ (by omega)
  have gne : ¬ Int64.ofNat (Nat.gcd T P) = 0 := by rw [lN_0 (by omega)]; omega
  refine ⟨fun _ => ⟨fun z => ⟨gne, ref U V _ ef.1 (fun z => absurd z y') (fun _ z => absurd z x) (fun _ _ => by rw [if_neg z])⟩, fun z => ⟨gne, ref U V _ ef.1 (fun z => absurd z y') (fun _ z => absurd z x) (fun _ _ => by rw [if_pos z])⟩⟩, fun z => absurd z gne⟩
end ODDS
