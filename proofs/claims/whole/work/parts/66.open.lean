/-! pages to be opened, places to be barred: both sides of one try -/
def srP (Z : XT) (v ps bs : Nat) : Bool × List (Nat → Nat) := srch (nsl Z ps bs) (dN Z) 3000 (okS (fun s => cl Z 60 (pls Z ps bs s)) (fun s => al0 Z v bs (pls Z ps bs s)) (cl Z 56) (twB Z ps bs))
def btr (Z : XT) (v ps bs : Nat) : Nat := told (nsl Z ps bs) (srP Z v ps bs).2 &&& cl Z 48 10
def opnR (Z : XT) (v ps : Nat) : Int32 := if ¬ spm Z ps 0 (dK Z) &&& cl Z 48 10 = 0 then 0 else if (srP Z v ps 0).1 = true then -1005 else if 0 < (srP Z v ps 0).2.length ∧ btr Z v ps 0 = 0 then 1 else 0
def barR (Z : XT) (v bs : Nat) : Int32 := if ¬ spm Z (pA Z) bs (dK Z) &&& cl Z 48 10 = 0 then 0 else if (srP Z v (pA Z) bs).1 = true then -1005 else if btr Z v (pA Z) bs = 0 then 1 else 0
theorem and_ne0 {x y : Nat} : ¬ x &&& y = 0 ↔ ∃ i, x.testBit i = true ∧ y.testBit i = true := by
  constructor
  · intro h
    apply Classical.byContradiction
    intro g
    apply h
    apply Nat.eq_of_testBit_eq
    intro i
    rw [Nat.testBit_and, Nat.zero_testBit]
    cases hx : x.testBit i with
    | false => rfl
    | true =>
      cases hy : y.testBit i with
      | false => rfl
      | true => exact absurd ⟨i, hx, hy⟩ g
  · rintro ⟨i, h1, h2⟩ h
    have := congrArg (fun z => z.testBit i) h
    simp only [Nat.testBit_and, Nat.zero_testBit] at this
    rw [h1, h2] at this
    cases this
theorem bfl {b : Bool} (h : ¬ b = false) : b = true := by cases b with
  | true => rfl
  | false => exact absurd rfl h
section OPEN
variable {Z X : XT} {Y : YT} {Q : Int32 → XT → YT → Prop} {QV : XT → YT → Prop} {ps bs v : Nat}
theorem shm_bit {g k i : Nat} : (shm Z bs g k).testBit i = true ↔ ∃ p, p < k ∧ cl Z 60 p = g ∧ hidB Z bs p = false ∧ cl Z 62 p = i := by
  unfold shm
  rw [orM_bit]
  constructor
  · rintro ⟨p, z1, z2⟩
    by_cases e : cl Z 60 p = g ∧ hidB Z bs p = false
    · rw [if_pos e, Nat.testBit_two_pow, decide_eq_true_iff] at z2
      exact ⟨p, z1, e.1, e.2, z2⟩
    · rw [if_neg e] at z2
      simp at z2
  · rintro ⟨p, z1, e1, e2, z2⟩
    refine ⟨p, z1, ?_⟩
    rw [if_pos ⟨e1, e2⟩, Nat.testBit_two_pow, decide_eq_true_iff]
    exact z2
theorem spm_bit {k i : Nat} : (spm Z ps bs k).testBit i = true ↔ ∃ p, p < k ∧ ps.testBit (cl Z 60 p) = true ∧ hidB Z bs p = false ∧ cl Z 62 p = i := by
  unfold spm
  rw [orM_bit]
  constructor
  · rintro ⟨p, z1, z2⟩
    by_cases e : ps.testBit (cl Z 60 p) = true ∧ hidB Z bs p = false
    · rw [if_pos e, Nat.testBit_two_pow, decide_eq_true_iff] at z2
      exact ⟨p, z1, e.1, e.2, z2⟩
    · rw [if_neg e] at z2
      simp at z2
  · rintro ⟨p, z1, e1, e2, z2⟩
    refine ⟨p, z1, ?_⟩
    rw [if_pos ⟨e1, e2⟩, Nat.testBit_two_pow, decide_eq_true_iff]
    exact z2
theorem kept_iff (h : Inv Z) {kp : Nat} : (∃ g, g < dP Z ∧ ps.testBit g = true ∧ ¬ shm Z bs g (dK Z) &&& kp = 0) ↔ ¬ spm Z ps bs (dK Z) &&& kp = 0 := by
  rw [and_ne0]
  constructor
  · rintro ⟨g, z1, z2, z3⟩
    obtain ⟨i, y1, y2⟩ := and_ne0.mp z3
    obtain ⟨p, x1, x2, x3, x4⟩ := shm_bit.mp y1
    exact ⟨i, spm_bit.mpr ⟨p, x1, by rw [x2]; exact z2, x3, x4⟩, y2⟩
  · rintro ⟨i, y1, y2⟩
    obtain ⟨p, x1, x2, x3, x4⟩ := spm_bit.mp y1
    exact ⟨cl Z 60 p, (i_pg h x1).1, x2, and_ne0.mpr ⟨i, shm_bit.mpr ⟨p, x1, rfl, x3, x4⟩, y2⟩⟩
theorem spm_lt (h : Inv Z) : spm Z ps bs (dK Z) < 2 ^ dN Z := by
  refine orM_lt _ (fun p hp => ?_)
  split
  · next z =>
    have hsh : cl Z 62 p < dN Z ∧ Z 62 p = nI (cl Z 62 p) := by
      rcases i_sh h hp with w | w
      · unfold hidB at z
        simp [w] at z
      · exact w
    exact Nat.pow_lt_pow_right (by decide) hsh.1
  · exact Nat.two_pow_pos _
theorem alP {s n : Nat} (hn : n < dN Z) : (al0 Z v bs (pls Z ps bs s)).testBit n = true ↔ alM Z bs 0 (fun _ => -1) v (pls Z ps bs s) n := by
  rw [al0_bit hn]
  unfold alM
  simp
theorem srP_may (h : Inv Z) {s : Nat} (hs : s < nsl Z ps bs) : tMay s (srP Z v ps bs).2 < 1024 := pow_le_1024 (i_N h).1 (tMay_lt hs (srch_ok (nsl_le h)).1)
/-- lay and go -/
theorem s_layGo (h : Inv Z) (c : FR Z X) (hps : ps < 2147483648) (hbs : bs < 2147483648) (hf : ∀ p, p < dK Z → X 36 p = nI (fitM Z v p)) (hq : ∀ U V, FR Z U → (∀ p, p < dK Z → U 36 p = nI (fitM Z v p)) → U 31 3 = nI (nsl Z ps bs) → U 39 11 = nI (srP Z v ps bs).1.toNat → Tal Z (nsl Z ps bs) (srP Z v ps bs).2 U V → QV U V) : PX0_lay (nI ps) (nI bs) X Y (fun X7 Y8 => PX5_go 3000 X7 Y8 QV) := by
  refine s_lay h c hps hbs hf (fun A lA a1 _ => ?_)
  have ch := lA.ch h (fun s hs => al0_lt)
  refine s_go (w := 3000) h ch (by omega) (fun U V e => ?_)
  have ef := e.fr ch
  obtain ⟨e1, e2, e3, e4, e5⟩ := id e
  exact hq U V ef.1 (fun p hp => by rw [e1 36 (by omega)]; exact a1 p hp) ef.2 e3 e4
theorem s_goP (h : Inv Z) (hv : v < 10) (hps : ps < 2147483648) (hbs : bs < 2147483648) (rc : RCf Z ps bs 0 (fun _ => -1) v X) (e53 : X 48 53 = -1) (hq : ∀ ret U V, EndM Z ps bs 3000 (X 48 54) (srP Z v ps bs).1 (srP Z v ps bs).2 ret U V → Q ret U V) : PX10_goThrough X Y Q :=
  s_goM h hv hps hbs (show 0 < 2147483648 by omega) (show 3000 < 2147483648 by omega) (Or.inl ⟨rfl, by omega⟩) (fun s hs n hn => alP hn) rc e53 rfl hq
theorem s_showsKept (h : Inv Z) (c : FR Z X) (ho : OpenOK Z X) (hps : ps < 2147483648) (hbs : bs < 2147483648) (e38 : X 48 38 = nI bs) (hq : ∀ r U, (∀ q, q ≠ 77 → U q = X q) → TV r (¬ spm Z ps bs (dK Z) &&& cl Z 48 10 = 0) → Q r U Y) : PX10_showsKept (nI ps) X Y Q := by
  intro I8 h8
  have hP := i_P h
  have hN := i_N h
  have hkp := i_kp h
  unfold BX10_showsKept_s
  refine s_findShown h c ho hbs e38 (fun U u1 u2 => ?_)
  have cU : FR Z U := c.trans (FR.only [77] (by intro q hq; simp at hq; omega) (fun q hq => u1 q (by simpa using hq)))
  have st : ∀ k, (∃ g, g < k + 1 ∧ ps.testBit g = true ∧ ¬ shm Z bs g (dK Z) &&& cl Z 48 10 = 0) ↔ (∃ g, g < k ∧ ps.testBit g = true ∧ ¬ shm Z bs g (dK Z) &&& cl Z 48 10 = 0) ∨ (ps.testBit k = true ∧ ¬ shm Z bs k (dK Z) &&& cl Z 48 10 = 0) := by
    intro k
    constructor
    · rintro ⟨g, z1, z2⟩
      by_cases e : g = k
      · subst e
        exact Or.inr z2
      · exact Or.inl ⟨g, by omega, z2⟩
    · rintro (⟨g, z1, z2⟩ | z2)
      · exact ⟨g, by omega, z2⟩
      · exact ⟨k, by omega, z2⟩
  refine dn (n := dP Z) (P := fun k => ∀ a2, TV a2 (∃ g, g < k ∧ ps.testBit g = true ∧ ¬ shm Z bs g (dK Z) &&& cl Z 48 10 = 0) → I8 (nI ps) a2 (nI k) U Y) ?_ ?_ 0 (by omega) 0 (TV.f (fun ⟨g, hg, _⟩ => absurd hg (by omega)))
  · intro a2 ha
    apply h8
    unfold BX10_showsKept_8
    rw [cU.2 13 (by omega), hP.2, le_nI (by omega) (by omega)]
    exact ⟨fun _ => ⟨ha.nar, hq a2 U u1 (ha.mp (kept_iff h))⟩, fun g => absurd (by omega) g⟩
  · intro k hk ih a2 ha
    apply h8
    unfold BX10_showsKept_8
    have l1 : shm Z bs k (dK Z) &&& cl Z 48 10 < 2 ^ dN Z := Nat.and_lt_two_pow _ hkp.1
    have l2 := pow_le_1024 hN.1 l1
    have e0 : (nI (shm Z bs k (dK Z) &&& cl Z 48 10) = 0) = (shm Z bs k (dK Z) &&& cl Z 48 10 = 0) := eq_nI (b := 0) (by omega) (by omega)
    rw [cU.2 13 (by omega), hP.2, le_nI (by omega) (by omega), bx_bit1 hps (by omega), cl_nI (by omega), u2 k (by omega), cU.2 10 (by omega), hkp.2, bx_and, e0]
    refine ⟨fun g => absurd g (by omega), fun _ => ⟨fun g w hw => ?_, fun g => ⟨fun g2 w hw => ?_, fun g2 => ⟨vp_in_nI (by omega) (by omega), fun g3 w hw => ?_, fun g3 w hw => ?_⟩⟩⟩⟩
    · rw [hw, nI_1]
      rw [ha.z] at g
      exact ih 1 (TV.t ((st k).mpr (Or.inl (Classical.not_not.mp g))))
    · rw [hw, nI_1]
      rw [ha.z] at g
      exact ih 0 (TV.f (fun z => ((st k).mp z).elim g (fun y => g2 y.1)))
    · rw [hw, nI_1]
      rw [ha.z] at g
      exact ih 0 (TV.f (fun z => ((st k).mp z).elim g (fun y => y.2 g3)))
    · rw [hw, nI_1]
      exact ih 1 (TV.t ((st k).mpr (Or.inr ⟨g2, g3⟩)))
theorem and_kp (h : Inv Z) {x : Nat} : (nI (x &&& cl Z 48 10) = 0) = (x &&& cl Z 48 10 = 0) := by
  have l1 : x &&& cl Z 48 10 < 2 ^ dN Z := Nat.and_lt_two_pow _ (i_kp h).1
  have l2 := pow_le_1024 (i_N h).1 l1
  exact eq_nI (b := 0) (by omega) (by omega)
theorem s_tryOpen (h : Inv Z) (c : FR Z X) (hps : ps < 2147483648) (hf : ∀ p, p < dK Z → X 36 p = nI (fitM Z v p)) (hq : ∀ U V, FR Z U → (∀ p, p < dK Z → U 36 p = nI (fitM Z v p)) → Q (opnR Z v ps) U V) : PX9_tryToOpen (nI ps) X Y Q := by
  unfold PX9_tryToOpen BX9_tryToOpen_s
  have hlen := (srch_ok (m := nsl Z ps 0) (N := dN Z) (w := 3000) (ok := okS (fun s => cl Z 60 (pls Z ps 0 s)) (fun s => al0 Z v 0 (pls Z ps 0 s)) (cl Z 56) (twB Z ps 0)) (nsl_le h)).2.1
  refine s_shownOn (bs := 0) h c hps (by omega) ?_
  rw [c.lo (by omega), c_kp h, (i_kp h).2, bx_and, and_kp h]
  refine ⟨fun g => s_layGo (bs := 0) h c hps (by omega) hf (fun U V cU fU u31 u39 tU => ?_), fun g => ?_⟩
  · rw [u39, bt0, tU.1]
    have hq := hq U V cU fU
    unfold opnR at hq
    rw [if_neg (by simpa using g)] at hq
    have e0 : (nI (srP Z v ps 0).2.length ≤ 0) = ((srP Z v ps 0).2.length ≤ 0) := le_nI (b := 0) (by unfold srP; omega) (by omega)
    rw [e0]
    refine ⟨fun g2 => ⟨fun g3 => ?_, fun g3 => s_betC h cU (nsl_le h) u31 (fun s hs => srP_may h hs) tU.2.2.1 ?_⟩, fun g2 => ?_⟩
    · rw [if_neg (by rw [g2]; decide), if_neg (by omega)] at hq
      exact hq
    · rw [and_kp h]
      rw [if_neg (by rw [g2]; decide)] at hq
      refine ⟨fun g4 => ?_, fun g4 => ?_⟩
      · rw [if_neg (fun z => g4 z.2)] at hq
        exact hq
      · rw [if_pos ⟨by omega, g4⟩] at hq
        exact hq
    · rw [if_pos (bfl g2)] at hq
      exact hq
  · have hq := hq X Y c hf
    unfold opnR at hq
    rw [if_pos g] at hq
    exact hq
theorem s_tryBar (h : Inv Z) (c : FR Z X) (hbs : bs < 2147483648) (hf : ∀ p, p < dK Z → X 36 p = nI (fitM Z v p)) (hq : ∀ U V, FR Z U → (∀ p, p < dK Z → U 36 p = nI (fitM Z v p)) → Q (barR Z v bs) U V) : PX9_tryToBar (nI bs) X Y Q := by
  have hP := i_P h
  have hA := pA_lt h
  unfold PX9_tryToBar BX9_tryToBar_s
  rw [eq_allBelow, c.lo (by omega), c_P h, hP.2, bx_below (by omega)]
  refine s_shownOn (ps := pA Z) h c (by omega) hbs ?_
  rw [c.lo (by omega), c_kp h, (i_kp h).2, bx_and, and_kp h]
  refine ⟨fun g => s_layGo (ps := pA Z) h c (by omega) hbs hf (fun U V cU fU u31 u39 tU => ?_), fun g => ?_⟩
  · rw [u39, bt0]
    have hq := hq U V cU fU
    unfold barR at hq
    rw [if_neg (by simpa using g)] at hq
    refine ⟨fun g2 => s_betC h cU (nsl_le h) u31 (fun s hs => srP_may h hs) tU.2.2.1 ?_, fun g2 => ?_⟩
    · rw [and_kp h]
      rw [if_neg (by rw [g2]; decide)] at hq
      refine ⟨fun g4 => ?_, fun g4 => ?_⟩
      · unfold btr at hq
        rw [if_neg g4] at hq
        exact hq
      · unfold btr at hq
        rw [if_pos g4] at hq
        exact hq
    · rw [if_pos (bfl g2)] at hq
      exact hq
  · have hq := hq X Y c hf
    unfold barR at hq
    rw [if_pos g] at hq
    exact hq
theorem s_openedBy (h : Inv Z) (c : FR Z X) (hps : ps < 2147483648) (hq : ∀ U V, FR Z U → Q (opnR Z (cl Z 48 9) ps) U V) : PX10_openedBy (nI ps) X Y Q := by
  intro I52 I53 h52 h53
  unfold BX10_openedBy_s
  have hlen := (srch_ok (m := nsl Z ps 0) (N := dN Z) (w := 3000) (ok := okS (fun s => cl Z 60 (pls Z ps 0 s)) (fun s => al0 Z (cl Z 48 9) 0 (pls Z ps 0 s)) (cl Z 56) (twB Z ps 0)) (nsl_le h)).2.1
  refine s_begin h c (fun U cU u37 u38 u39 u41 u53 u54 u71 _ => s_findOpen h cU (fun W cW w1 w2 wo => ?_))
  have W38 : W 48 38 = nI 0 := by rw [w2 38 (by decide)]; exact u38
  refine s_showsKept (ps := ps) (bs := 0) h cW wo hps (by omega) W38 (fun r A a1 hr => ?_)
  have cA : FR Z A := cW.trans (FR.only [77] (by intro q hq; simp at hq; omega) (fun q hq => a1 q (by simpa using hq)))
  rw [hr.z]
  have I53' : ∀ (t0 : Int32) (p : Prop) (B : XT) (V : YT), TV t0 p → (∀ r, TV r p → Q r B V) → I53 t0 B V := by
    intro t0 p B V ht hk
    apply h53
    unfold BX10_openedBy_53
    rw [eq_one]
    have e : bI (¬ t0 = 0) = t0 := by
      rcases ht with ⟨z, -⟩ | ⟨z, -⟩ <;> subst z <;> decide
    rw [e]
    exact hk t0 ht
  refine ⟨fun g => ?_, fun g => ?_⟩
  · have a48 : A 48 = W 48 := a1 48 (by decide)
    have y48 : ∀ j, j ≠ 37 → (sX A 48 37 (nI ps)) 48 j = W 48 j := fun j hj => by rw [sX_eq, a48]; unfold upd; rw [if_neg hj]
    refine s_goP (v := cl Z 48 9) (bs := 0) h (by have := (i_sl h).1; omega) hps (by omega) ⟨cA.set48 (by omega), by rw [sX_eq]; simp [upd], by rw [y48 38 (by decide)]; exact W38, by rw [y48 39 (by decide), w2 39 (by decide)]; exact u39, by rw [y48 41 (by decide), w2 41 (by decide)]; exact u41, by rw [sX_ne (by decide), a1 71 (by decide), w1 71 (by decide) (by decide)]; exact u71⟩ (by rw [y48 53 (by decide), w2 53 (by decide)]; exact u53) (fun ret B V e => ?_)
    obtain ⟨e1, e2, e3, ⟨e0, _, e4⟩, e5⟩ := e
    have hq := hq B V e2
    unfold opnR at hq
    rw [if_neg g] at hq
    have el : (nI (srP Z (cl Z 48 9) ps 0).2.length ≤ 0) = ((srP Z (cl Z 48 9) ps 0).2.length ≤ 0) := le_nI (b := 0) (by unfold srP; omega) (by omega)
    rw [ret_0 e1, e4.1, el]
    refine ⟨fun g2 => ⟨fun g3 => ?_, fun g3 => s_betM h e2 (nsl_le h) e3.1 e4.2.2.2.1 ?_⟩, fun g2 => ?_⟩
    · rw [if_neg g2, if_neg (by omega)] at hq
      apply h52
      exact I53' 0 False B V (TV.f id) (fun r hr => by rcases hr with ⟨z, y⟩ | ⟨z, y⟩; exact y.elim; rw [z]; exact hq)
    · rw [and_kp h]
      rw [if_neg g2] at hq
      refine ⟨fun g4 => ?_, fun g4 => ?_⟩
      · rw [if_neg (fun z => g4 z.2)] at hq
        apply h52
        exact I53' 0 False B V (TV.f id) (fun r hr => by rcases hr with ⟨z, y⟩ | ⟨z, y⟩; exact y.elim; rw [z]; exact hq)
      · rw [if_pos ⟨by omega, g4⟩] at hq
        exact I53' 1 True B V (TV.t trivial) (fun r hr => by rcases hr with ⟨z, y⟩ | ⟨z, y⟩; rw [z]; exact hq; exact (y trivial).elim)
    · rw [if_pos g2] at hq
      exact hq
  · have hq := hq A Y cA
    unfold opnR at hq
    rw [if_pos (Classical.not_not.mp g)] at hq
    rcases hr with ⟨z, y⟩ | ⟨z, y⟩
    · exact hq
    · exact hq
theorem s_isSafe (h : Inv Z) (c : FR Z X) (hbs : bs < 2147483648) (hq : ∀ U V, FR Z U → Q (barR Z (cl Z 48 9) bs) U V) : PX10_isSafe (nI bs) X Y Q := by
  intro I53 h53
  have hP := i_P h
  have hA := pA_lt h
  unfold BX10_isSafe_s
  refine s_begin h c (fun U cU u37 u38 u39 u41 u53 u54 u71 _ => s_findOpen h cU (fun W cW w1 w2 wo => ?_))
  have y48 : ∀ j, j ≠ 38 → (sX W 48 38 (nI bs)) 48 j = W 48 j := fun j hj => by rw [sX_eq]; unfold upd; rw [if_neg hj]
  have e38 : (sX W 48 38 (nI bs)) 48 38 = nI bs := by rw [sX_eq]; simp [upd]
  rw [y48 13 (by decide), cW.2 13 (by omega), hP.2, bx_below (by omega)]
  refine s_showsKept (ps := pA Z) (bs := bs) h (cW.set48 (by omega)) (wo.congr (y48 46 (by decide)) (sX_ne (by decide))) (by omega) hbs e38 (fun r A a1 hr => ?_)
  have cA : FR Z A := (cW.set48 (k := 38) (v := nI bs) (by omega)).trans (FR.only [77] (by intro q hq; simp at hq; omega) (fun q hq => a1 q (by simpa using hq)))
  rw [hr.z]
  have I53' : ∀ (t0 : Int32) (B : XT) (V : YT), (t0 = 0 ∨ t0 = 1) → Q t0 B V → I53 t0 B V := by
    intro t0 B V ht hk
    apply h53
    unfold BX10_isSafe_53
    rw [eq_one]
    have e : bI (¬ t0 = 0) = t0 := by
      rcases ht with z | z <;> subst z <;> decide
    rw [e]
    exact hk
  refine ⟨fun g => ?_, fun g => ?_⟩
  · have a48 : A 48 = (sX W 48 38 (nI bs)) 48 := a1 48 (by decide)
    refine s_goP (v := cl Z 48 9) (ps := pA Z) h (by have := (i_sl h).1; omega) (by omega) hbs ⟨cA, by rw [a48, y48 37 (by decide), w2 37 (by decide)]; exact u37, by rw [a48]; exact e38, by rw [a48, y48 39 (by decide), w2 39 (by decide)]; exact u39, by rw [a48, y48 41 (by decide), w2 41 (by decide)]; exact u41, by rw [a1 71 (by decide), sX_ne (by decide), w1 71 (by decide) (by decide)]; exact u71⟩ (by rw [a48, y48 53 (by decide), w2 53 (by decide)]; exact u53) (fun ret B V e => ?_)
    obtain ⟨e1, e2, e3, ⟨e0, _, e4⟩, e5⟩ := e
    have hq := hq B V e2
    unfold barR at hq
    rw [if_neg g] at hq
    rw [ret_0 e1]
    refine ⟨fun g2 => s_betM h e2 (nsl_le h) e3.1 e4.2.2.2.1 ?_, fun g2 => ?_⟩
    · rw [and_kp h]
      rw [if_neg g2] at hq
      refine ⟨fun g4 => ?_, fun g4 => ?_⟩
      · unfold btr at hq
        rw [if_neg g4] at hq
        exact I53' 0 B V (Or.inl rfl) hq
      · unfold btr at hq
        rw [if_pos g4] at hq
        exact I53' 1 B V (Or.inr rfl) hq
    · rw [if_pos g2] at hq
      exact hq
  · have hq := hq A Y cA
    unfold barR at hq
    rw [if_pos (Classical.not_not.mp g)] at hq
    exact hq
end OPEN
