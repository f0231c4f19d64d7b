/-! opened, most, fewest, wider -/
def inn (g : Nat → Int32) (e : Int32) : Nat → Nat → Int32
  | 0, _ => e
  | d + 1, s => if g s = 0 then inn g e d (s + 1) else if g s = -1005 then -1005 else nI s
def gOf (f : Nat → Int32) (many s : Nat) : Int32 := if onesI (nI s) 20 = nI many then f s else 0
def mst (e : Int32) (f : Nat → Int32) (lim : Nat) : Nat → Int32
  | 0 => e
  | j + 1 => inn (gOf f j) (mst e f lim j) lim 0
def fws (f : Nat → Int32) (lim : Nat) : Nat → Nat → Int32
  | 0, _ => -1
  | d + 1, many => inn (gOf f many) (fws f lim d (many + 1)) lim 0
theorem inn_yes {g : Nat → Int32} {e : Int32} {d s : Nat} (h : ¬ g s = 0) : inn g e (d + 1) s = if g s = -1005 then -1005 else nI s := by
  show (if g s = 0 then inn g e d (s + 1) else if g s = -1005 then -1005 else nI s) = _
  rw [if_neg h]
theorem inn_no {g : Nat → Int32} {e : Int32} {d s : Nat} (h : g s = 0) : inn g e (d + 1) s = inn g e d (s + 1) := by
  show (if g s = 0 then inn g e d (s + 1) else if g s = -1005 then -1005 else nI s) = _
  rw [if_pos h]
theorem gOf_0 {f : Nat → Int32} {many s : Nat} (h : ¬ onesI (nI s) 20 = nI many) : gOf f many s = 0 := by unfold gOf; rw [if_neg h]
theorem gOf_1 {f : Nat → Int32} {many s : Nat} (h : onesI (nI s) 20 = nI many) : gOf f many s = f s := by unfold gOf; rw [if_pos h]
theorem mst_e {e e' : Int32} {f : Nat → Int32} {lim : Nat} (hl : 0 < lim) (h : ¬ f 0 = 0) : ∀ j, mst e f lim (j + 1) = mst e' f lim (j + 1)
  | 0 => by
    show inn _ _ lim 0 = inn _ _ lim 0
    have : gOf f 0 0 = f 0 := gOf_1 (by decide)
    rw [show lim = (lim - 1) + 1 by omega, inn_yes (by rw [this]; exact h), inn_yes (by rw [this]; exact h)]
  | j + 1 => by
    show inn _ (mst e f lim (j + 1)) lim 0 = inn _ (mst e' f lim (j + 1)) lim 0
    rw [mst_e hl h j]
section MANY
variable {Z X : XT} {Y : YT} {Q : Int32 → XT → YT → Prop} {QV : XT → YT → Prop} {K : XT → YT → Prop} {a : Int32} {v : Nat}
theorem opnR_or {ps : Nat} : opnR Z v ps = 0 ∨ opnR Z v ps = 1 ∨ opnR Z v ps = -1005 := by
  unfold opnR
  split
  · exact Or.inl rfl
  · split
    · exact Or.inr (Or.inr rfl)
    · split
      · exact Or.inr (Or.inl rfl)
      · exact Or.inl rfl
theorem barR_or {bs : Nat} : barR Z v bs = 0 ∨ barR Z v bs = 1 ∨ barR Z v bs = -1005 := by
  unfold barR
  split
  · exact Or.inl rfl
  · split
    · exact Or.inr (Or.inr rfl)
    · split
      · exact Or.inr (Or.inl rfl)
      · exact Or.inl rfl
theorem pr_opened (h : Inv X) (hK : ∀ X2 Y2, Inv X2 → K X2 Y2) : PX9_opened a X Y (fun r X1 Y1 => PX10_opened a X1 Y1 (Kq K r)) := by
  have hP := i_P h
  have hS := i_sl h
  unfold PX9_opened BX9_opened_s
  rw [eq_allBelow, c_P h, hP.2, bx_below (by omega), bx_known (by omega)]
  refine ⟨fun g => ?_, fun g => ?_⟩
  · obtain ⟨ps, hps, rfl⟩ := bx_set (by omega) g
    have p8 : (2 : Nat) ^ dP X ≤ 2 ^ 8 := Nat.pow_le_pow_right (by decide) hP.1
    have e8 : (2 : Nat) ^ 8 = 256 := by decide
    rw [c_sl h, hS.2]
    refine s_measureAll h FR.refl (by omega) (fun U u1 u2 => ?_)
    have cU : FR X U := FR.only [36] (by intro q hq; simp at hq; omega) (fun q hq => u1 q (by simpa using hq))
    refine s_tryOpen h cU (by omega) u2 (fun W V cW fW => ?_)
    unfold PX10_opened BX10_opened_s
    dsimp only
    rw [cW.2 13 (by omega), hP.2, bx_below (by omega), l64_0, eq_in3]
    simp only [bI_0, Classical.not_not]
    exact ⟨fun z => absurd g z, fun _ => s_openedBy h cW (by omega) (fun W' V' cW' => kq rfl (hK _ _ (inv_FR h cW')))⟩
  · unfold PX10_opened BX10_opened_s
    dsimp only
    rw [hP.2, bx_below (by omega), l64_0, eq_in3]
    simp only [bI_0, Classical.not_not]
    exact ⟨fun _ => kq rfl (hK _ _ h), fun z => absurd z g⟩
theorem s_mostC (h : Inv Z) (c : FR Z X) (hq : ∀ U V, FR Z U → Q (mst 0 (opnR Z (cl Z 48 9)) (2 ^ dP Z) (dP Z + 1)) U V) : PX9_most X Y Q := by
  intro I19 I25 h19 h25
  have hP := i_P h
  have hS := i_sl h
  have p8 : (2 : Nat) ^ dP Z ≤ 2 ^ 8 := Nat.pow_le_pow_right (by decide) hP.1
  have e8 : (2 : Nat) ^ 8 = 256 := by decide
  have p0 : 0 < (2 : Nat) ^ dP Z := Nat.two_pow_pos _
  unfold BX9_most_s
  rw [c.lo (by omega), c_sl h, hS.2]
  refine s_measureAll h c (by omega) (fun U u1 u2 w5 e5 => ?_)
  have cU : FR Z U := c.trans (FR.only [36] (by intro q hq; simp at hq; omega) (fun q hq => u1 q (by simpa using hq)))
  rw [cU.lo (by omega), c_P h, hP.2] at e5
  subst e5
  have outer : ∀ j, j ≤ dP Z + 1 → ∀ U V, FR Z U → (∀ p, p < dK Z → U 36 p = nI (fitM Z (cl Z 48 9) p)) → (∀ W V', FR Z W → Q (mst 0 (opnR Z (cl Z 48 9)) (2 ^ dP Z) j) W V') → I19 (nI j - 1) U V := by
    intro j
    induction j with
    | zero =>
      intro _ U V cU fU hq
      apply h19
      unfold BX9_most_19
      exact ⟨fun _ => hq U V cU, fun z => absurd (by decide) z⟩
    | succ j ih =>
      intro hj U V cU fU hq
      rw [nim1]
      apply h19
      unfold BX9_most_19
      refine ⟨fun z => absurd z (nI_pos (by omega)), fun _ => ?_⟩
      refine dn (n := 2 ^ dP Z) (P := fun s => ∀ U V, FR Z U → (∀ p, p < dK Z → U 36 p = nI (fitM Z (cl Z 48 9) p)) → (∀ W V', FR Z W → Q (inn (gOf (opnR Z (cl Z 48 9)) j) (mst 0 (opnR Z (cl Z 48 9)) (2 ^ dP Z) j) (2 ^ dP Z - s) s) W V') → I25 (nI j) (nI s) U V) ?_ ?_ 0 (by omega) U V cU fU hq
      · intro U V cU fU hq
        apply h25
        unfold BX9_most_25
        rw [eq_allBelow, cU.lo (by omega), c_P h, hP.2, bx_below (by omega), i_lt, le_nI (by omega) (by omega)]
        refine ⟨fun _ w e => ?_, fun z => absurd (by omega) z⟩
        rw [e, addm1]
        refine ih (by omega) U V cU fU (fun W V' cW => ?_)
        have := hq W V' cW
        rw [Nat.sub_self] at this
        exact this
      · intro s hs ihs U V cU fU hq
        apply h25
        unfold BX9_most_25
        rw [eq_allBelow, cU.lo (by omega), c_P h, hP.2, bx_below (by omega), i_lt, le_nI (by omega) (by omega), eq_bitCount, bc_ones s (by omega)]
        have no : gOf (opnR Z (cl Z 48 9)) j s = 0 → ∀ U V, FR Z U → (∀ p, p < dK Z → U 36 p = nI (fitM Z (cl Z 48 9) p)) → ∀ w : Int32, w = nI s + 1 → I25 (nI j) w U V := by
          intro hg U V cU fU w e
          rw [e, nI_1]
          refine ihs U V cU fU (fun W V' cW => ?_)
          have := hq W V' cW
          rw [show 2 ^ dP Z - s = (2 ^ dP Z - (s + 1)) + 1 by omega, inn_no hg] at this
          exact this
        refine ⟨fun z => absurd (by omega) z, fun _ => ⟨fun z => ⟨fun _ => no (gOf_0 z) U V cU fU, fun y => absurd rfl y⟩, fun z => s_tryOpen h cU (by omega) fU (fun W V' cW fW => ?_)⟩⟩
        refine ⟨fun y => no (by rw [gOf_1 z]; exact y) W V' cW fW, fun y => ?_⟩
        have hq := hq W V' cW
        rw [show 2 ^ dP Z - s = (2 ^ dP Z - (s + 1)) + 1 by omega, inn_yes (by rw [gOf_1 z]; exact y), gOf_1 z] at hq
        refine ⟨fun x => ?_, fun x => ?_⟩
        · rw [if_neg x] at hq
          exact hq
        · rw [if_pos x] at hq
          exact hq
  have := outer (dP Z + 1) (by omega) U Y cU u2 hq
  rw [nim1] at this
  exact this
theorem s_mostM (h : Inv Z) (c : FR Z X) (hq : ∀ U V, FR Z U → Q (mst (-1) (opnR Z (cl Z 48 9)) (2 ^ dP Z) (dP Z + 1)) U V) : PX10_most X Y Q := by
  intro I5 I11 h5 h11
  have hP := i_P h
  have p8 : (2 : Nat) ^ dP Z ≤ 2 ^ 8 := Nat.pow_le_pow_right (by decide) hP.1
  have e8 : (2 : Nat) ^ 8 = 256 := by decide
  have p0 : 0 < (2 : Nat) ^ dP Z := Nat.two_pow_pos _
  unfold BX10_most_s
  intro w1 e1
  rw [c.2 13 (by omega), hP.2] at e1
  subst e1
  have outer : ∀ j, j ≤ dP Z + 1 → ∀ U V, FR Z U → (∀ W V', FR Z W → Q (mst (-1) (opnR Z (cl Z 48 9)) (2 ^ dP Z) j) W V') → I5 (nI j - 1) U V := by
    intro j
    induction j with
    | zero =>
      intro _ U V cU hq
      apply h5
      unfold BX10_most_5
      exact ⟨fun _ => hq U V cU, fun z => absurd (by decide) z⟩
    | succ j ih =>
      intro hj U V cU hq
      rw [nim1]
      apply h5
      unfold BX10_most_5
      refine ⟨fun z => absurd z (nI_pos (by omega)), fun _ => ?_⟩
      refine dn (n := 2 ^ dP Z) (P := fun s => ∀ U V, FR Z U → (∀ W V', FR Z W → Q (inn (gOf (opnR Z (cl Z 48 9)) j) (mst (-1) (opnR Z (cl Z 48 9)) (2 ^ dP Z) j) (2 ^ dP Z - s) s) W V') → I11 (nI j) (nI s) U V) ?_ ?_ 0 (by omega) U V cU hq
      · intro U V cU hq
        apply h11
        unfold BX10_most_11
        rw [cU.2 13 (by omega), hP.2, bx_1shl (by omega), le_nI (by omega) (by omega)]
        refine ⟨fun _ w e => ?_, fun z => absurd (by omega) z⟩
        rw [e, addm1]
        refine ih (by omega) U V cU (fun W V' cW => ?_)
        have := hq W V' cW
        rw [Nat.sub_self] at this
        exact this
      · intro s hs ihs U V cU hq
        apply h11
        unfold BX10_most_11
        rw [cU.2 13 (by omega), hP.2, bx_1shl (by omega), le_nI (by omega) (by omega)]
        have no : gOf (opnR Z (cl Z 48 9)) j s = 0 → ∀ U V, FR Z U → ∀ w : Int32, w = nI s + 1 → I11 (nI j) w U V := by
          intro hg U V cU w e
          rw [e, nI_1]
          refine ihs U V cU (fun W V' cW => ?_)
          have := hq W V' cW
          rw [show 2 ^ dP Z - s = (2 ^ dP Z - (s + 1)) + 1 by omega, inn_no hg] at this
          exact this
        refine ⟨fun z => absurd z (by omega), fun _ => s_ones ⟨fun z => no (gOf_0 z) U V cU, fun z => s_openedBy h cU (by omega) (fun W V' cW => ?_)⟩⟩
        refine ⟨fun y => no (by rw [gOf_1 z]; exact y) W V' cW, fun y => ?_⟩
        have hq := hq W V' cW
        rw [show 2 ^ dP Z - s = (2 ^ dP Z - (s + 1)) + 1 by omega, inn_yes (by rw [gOf_1 z]; exact y), gOf_1 z] at hq
        refine ⟨fun x => ?_, fun x => ?_⟩
        · have : opnR Z (cl Z 48 9) s = -1005 := by
            rcases opnR_or (Z := Z) (v := cl Z 48 9) (ps := s) with k | k | k
            · exact absurd k y
            · exact absurd k x
            · exact k
          rw [if_pos this] at hq
          rw [this]
          exact hq
        · rw [if_neg (by rw [x]; decide)] at hq
          exact hq
  have := outer (dP Z + 1) (by omega) X Y c hq
  rw [nim1] at this
  exact this
theorem opnR_0 (h : Inv Z) : opnR Z v 0 = 1 := by
  have e1 : spm Z 0 0 (dK Z) &&& cl Z 48 10 = 0 := by
    have : spm Z 0 0 (dK Z) = 0 := by
      apply Nat.eq_of_testBit_eq
      intro i
      rw [Nat.zero_testBit]
      cases hh : (spm Z 0 0 (dK Z)).testBit i with
      | false => rfl
      | true =>
        obtain ⟨p, _, z, _⟩ := spm_bit.mp hh
        simp at z
    rw [this, Nat.zero_and]
  have e2 : nsl Z 0 0 = 0 := by
    unfold nsl
    have : ∀ k, cnt (laidB Z 0 0) k = 0 := by
      intro k
      induction k with
      | zero => rfl
      | succ k ih =>
        rw [cnt_s, ih]
        unfold laidB
        simp
    exact this _
  have e3 : srP Z v 0 0 = (false, [fun _ => 0]) := by
    unfold srP srch
    rw [if_pos e2]
  unfold opnR btr
  rw [if_neg (by rw [e1]; simp), e3, e2]
  show (if false = true then _ else if 0 < 1 ∧ told 0 [fun _ => 0] &&& cl Z 48 10 = 0 then (1 : Int32) else 0) = 1
  rw [if_neg (by decide), if_pos ⟨by omega, by show 0 &&& _ = 0; exact Nat.zero_and _⟩]
theorem pr_most (h : Inv X) (hK : ∀ X2 Y2, Inv X2 → K X2 Y2) : PX9_most X Y (fun r X1 Y1 => PX10_most X1 Y1 (Kq K r)) := by
  refine s_mostC h FR.refl (fun U V cU => s_mostM h cU (fun W V' cW => kq ?_ (hK _ _ (inv_FR h cW))))
  exact mst_e (Nat.two_pow_pos _) (by rw [opnR_0 h]; decide) _
theorem s_fewC (h : Inv Z) (c : FR Z X) (hq : ∀ U V, FR Z U → Q (fws (barR Z (cl Z 48 9)) (2 ^ min (co (Z 62) (dK Z)) 8) (min (co (Z 62) (dK Z)) 8 + 1) 0) U V) : PX9_fewest X Y Q := by
  intro I26 I33 h26 h33
  have hP := i_P h
  have hS := i_sl h
  have hK := i_K h
  have hco := co_le (Z 62) (dK Z)
  generalize hL : min (co (Z 62) (dK Z)) 8 = L at hq
  have hL8 : L ≤ 8 := by omega
  have p8 : (2 : Nat) ^ L ≤ 2 ^ 8 := Nat.pow_le_pow_right (by decide) hL8
  have e8 : (2 : Nat) ^ 8 = 256 := by decide
  have p0 : 0 < (2 : Nat) ^ L := Nat.two_pow_pos _
  unfold BX9_fewest_s
  rw [c.lo (by omega), c_sl h, hS.2]
  refine s_measureAll h c (by omega) (fun U u1 u2 w5 e5 => ?_)
  have cU : FR Z U := c.trans (FR.only [36] (by intro q hq; simp at hq; omega) (fun q hq => u1 q (by simpa using hq)))
  have e5 : w5 = nI L := by
    rw [e5, cU.lo (by omega), i_op h]
    by_cases z : 8 < co (Z 62) (dK Z)
    · rw [if_pos (by rw [i_lt, show (8 : Int32) = nI 8 from rfl, le_nI (by omega) (by omega)]; omega), ← hL, Nat.min_eq_right (by omega)]
      rfl
    · rw [if_neg (by rw [i_lt, show (8 : Int32) = nI 8 from rfl, le_nI (by omega) (by omega)]; omega), ← hL, Nat.min_eq_left (by omega)]
  subst e5
  refine dn (n := L + 1) (P := fun j => ∀ U V, FR Z U → (∀ p, p < dK Z → U 36 p = nI (fitM Z (cl Z 48 9) p)) → (∀ W V', FR Z W → Q (fws (barR Z (cl Z 48 9)) (2 ^ L) (L + 1 - j) j) W V') → I26 (nI L) (nI j) U V) ?_ ?_ 0 (by omega) U Y cU u2 hq
  · intro U V cU fU hq
    apply h26
    unfold BX9_fewest_26
    rw [i_lt, le_nI (by omega) (by omega)]
    refine ⟨fun _ => ?_, fun z => absurd (by omega) z⟩
    have := hq U V cU
    rw [Nat.sub_self] at this
    exact this
  · intro j hj ih U V cU fU hq
    apply h26
    unfold BX9_fewest_26
    rw [i_lt, le_nI (by omega) (by omega)]
    refine ⟨fun z => absurd (by omega) z, fun _ => ?_⟩
    have e9 : L + 1 - j = (L + 1 - (j + 1)) + 1 := by omega
    refine dn (n := 2 ^ L) (P := fun s => ∀ U V, FR Z U → (∀ p, p < dK Z → U 36 p = nI (fitM Z (cl Z 48 9) p)) → (∀ W V', FR Z W → Q (inn (gOf (barR Z (cl Z 48 9)) j) (fws (barR Z (cl Z 48 9)) (2 ^ L) (L + 1 - (j + 1)) (j + 1)) (2 ^ L - s) s) W V') → I33 (nI L) (nI j) (nI s) U V) ?_ ?_ 0 (by omega) U V cU fU (fun W V' cW => ?_)
    · intro U V cU fU hq
      apply h33
      unfold BX9_fewest_33
      rw [eq_allBelow, bx_below (by omega), i_lt, le_nI (by omega) (by omega)]
      refine ⟨fun _ w e => ?_, fun z => absurd (by omega) z⟩
      rw [e, nI_1]
      refine ih U V cU fU (fun W V' cW => ?_)
      have := hq W V' cW
      rw [Nat.sub_self] at this
      exact this
    · intro s hs ihs U V cU fU hq
      apply h33
      unfold BX9_fewest_33
      rw [eq_allBelow, bx_below (by omega), i_lt, le_nI (by omega) (by omega), eq_bitCount, bc_ones s (by omega)]
      have no : gOf (barR Z (cl Z 48 9)) j s = 0 → ∀ U V, FR Z U → (∀ p, p < dK Z → U 36 p = nI (fitM Z (cl Z 48 9) p)) → ∀ w : Int32, w = nI s + 1 → I33 (nI L) (nI j) w U V := by
        intro hg U V cU fU w e
        rw [e, nI_1]
        refine ihs U V cU fU (fun W V' cW => ?_)
        have := hq W V' cW
        rw [show 2 ^ L - s = (2 ^ L - (s + 1)) + 1 by omega, inn_no hg] at this
        exact this
      refine ⟨fun z => absurd (by omega) z, fun _ => ⟨fun z => ⟨fun _ => no (gOf_0 z) U V cU fU, fun y => absurd rfl y⟩, fun z => s_tryBar h cU (by omega) fU (fun W V' cW fW => ?_)⟩⟩
      refine ⟨fun y => no (by rw [gOf_1 z]; exact y) W V' cW fW, fun y => ?_⟩
      have hq := hq W V' cW
      rw [show 2 ^ L - s = (2 ^ L - (s + 1)) + 1 by omega, inn_yes (by rw [gOf_1 z]; exact y), gOf_1 z] at hq
      refine ⟨fun x => ?_, fun x => ?_⟩
      · rw [if_neg x] at hq
        exact hq
      · rw [if_pos x] at hq
        exact hq
    · have := hq W V' cW
      rw [e9] at this
      exact this
theorem s_fewM (h : Inv Z) (c : FR Z X) (hq : ∀ U V, FR Z U → Q (fws (barR Z (cl Z 48 9)) (2 ^ min (co (Z 62) (dK Z)) 8) (min (co (Z 62) (dK Z)) 8 + 1) 0) U V) : PX10_fewest X Y Q := by
  intro I11 I18 h11 h18
  unfold BX10_fewest_s
  refine s_findOpen h c (fun U cU u1 u2 uo w5 e5 => ?_)
  rw [uo.1] at e5
  generalize hL : min (co (Z 62) (dK Z)) 8 = L at hq e5
  have hL8 : L ≤ 8 := by omega
  have p8 : (2 : Nat) ^ L ≤ 2 ^ 8 := Nat.pow_le_pow_right (by decide) hL8
  have e8 : (2 : Nat) ^ 8 = 256 := by decide
  have p0 : 0 < (2 : Nat) ^ L := Nat.two_pow_pos _
  subst e5
  refine dn (n := L + 1) (P := fun j => ∀ U V, FR Z U → (∀ W V', FR Z W → Q (fws (barR Z (cl Z 48 9)) (2 ^ L) (L + 1 - j) j) W V') → I11 (nI L) (nI j) U V) ?_ ?_ 0 (by omega) U Y cU hq
  · intro U V cU hq
    apply h11
    unfold BX10_fewest_11
    rw [i_lt, le_nI (by omega) (by omega)]
    refine ⟨fun _ => ?_, fun z => absurd (by omega) z⟩
    have := hq U V cU
    rw [Nat.sub_self] at this
    exact this
  · intro j hj ih U V cU hq
    apply h11
    unfold BX10_fewest_11
    rw [i_lt, le_nI (by omega) (by omega)]
    refine ⟨fun z => absurd (by omega) z, fun _ => ?_⟩
    have e9 : L + 1 - j = (L + 1 - (j + 1)) + 1 := by omega
    refine dn (n := 2 ^ L) (P := fun s => ∀ U V, FR Z U → (∀ W V', FR Z W → Q (inn (gOf (barR Z (cl Z 48 9)) j) (fws (barR Z (cl Z 48 9)) (2 ^ L) (L + 1 - (j + 1)) (j + 1)) (2 ^ L - s) s) W V') → I18 (nI L) (nI j) (nI s) U V) ?_ ?_ 0 (by omega) U V cU (fun W V' cW => ?_)
    · intro U V cU hq
      apply h18
      unfold BX10_fewest_18
      rw [bx_1shl (by omega), le_nI (by omega) (by omega)]
      refine ⟨fun _ w e => ?_, fun z => absurd (by omega) z⟩
      rw [e, nI_1]
      refine ih U V cU (fun W V' cW => ?_)
      have := hq W V' cW
      rw [Nat.sub_self] at this
      exact this
    · intro s hs ihs U V cU hq
      apply h18
      unfold BX10_fewest_18
      rw [bx_1shl (by omega), le_nI (by omega) (by omega)]
      have no : gOf (barR Z (cl Z 48 9)) j s = 0 → ∀ U V, FR Z U → ∀ w : Int32, w = nI s + 1 → I18 (nI L) (nI j) w U V := by
        intro hg U V cU w e
        rw [e, nI_1]
        refine ihs U V cU (fun W V' cW => ?_)
        have := hq W V' cW
        rw [show 2 ^ L - s = (2 ^ L - (s + 1)) + 1 by omega, inn_no hg] at this
        exact this
      refine ⟨fun z => absurd z (by omega), fun _ => s_ones ⟨fun z => no (gOf_0 z) U V cU, fun z => s_isSafe h cU (by omega) (fun W V' cW => ?_)⟩⟩
      refine ⟨fun y => no (by rw [gOf_1 z]; exact y) W V' cW, fun y => ?_⟩
      have hq := hq W V' cW
      rw [show 2 ^ L - s = (2 ^ L - (s + 1)) + 1 by omega, inn_yes (by rw [gOf_1 z]; exact y), gOf_1 z] at hq
      refine ⟨fun x => ?_, fun x => ?_⟩
      · have : barR Z (cl Z 48 9) s = -1005 := by
          rcases barR_or (Z := Z) (v := cl Z 48 9) (bs := s) with k | k | k
          · exact absurd k y
          · exact absurd k x
          · exact k
        rw [if_pos this] at hq
        rw [this]
        exact hq
      · rw [if_neg (by rw [x]; decide)] at hq
        exact hq
    · have := hq W V' cW
      rw [e9] at this
      exact this
theorem pr_fewest (h : Inv X) (hK : ∀ X2 Y2, Inv X2 → K X2 Y2) : PX9_fewest X Y (fun r X1 Y1 => PX10_fewest X1 Y1 (Kq K r)) :=
  s_fewC h FR.refl (fun U V cU => s_fewM h cU (fun W V' cW => kq rfl (hK _ _ (inv_FR h cW))))
/-- wider: the first slack from v on with nobody told -/
def wdr (Z : XT) : Nat → Nat → Int32
  | 0, _ => -1
  | d + 1, v => if (srP Z v (pA Z) 0).1 = true then -1005 else if btr Z v (pA Z) 0 = 0 then nI v else wdr Z d (v + 1)
theorem wdr_s (Z : XT) (d v : Nat) : wdr Z (d + 1) v = if (srP Z v (pA Z) 0).1 = true then -1005 else if btr Z v (pA Z) 0 = 0 then nI v else wdr Z d (v + 1) := rfl
theorem s_widC (h : Inv Z) (c : FR Z X) (hq : ∀ U V, FR Z U → Q (wdr Z (10 - cl Z 48 9) (cl Z 48 9)) U V) : PX9_wider X Y Q := by
  intro I5 h5
  have hP := i_P h
  have hS := i_sl h
  have hA := pA_lt h
  unfold BX9_wider_s
  intro w1 e1
  rw [c.lo (by omega), c_sl h, hS.2] at e1
  subst e1
  refine dn (n := 10) (P := fun v => ∀ U V, FR Z U → (∀ W V', FR Z W → Q (wdr Z (10 - v) v) W V') → I5 (nI v) U V) ?_ ?_ (cl Z 48 9) (by omega) X Y c hq
  · intro U V cU hq
    apply h5
    unfold BX9_wider_5
    exact ⟨fun _ => hq U V cU, fun z => absurd (by decide) z⟩
  · intro v hv ih U V cU hq
    apply h5
    unfold BX9_wider_5
    rw [i_lt, show (9 : Int32) = nI 9 from rfl, le_nI (by omega) (by omega)]
    refine ⟨fun z => absurd (by omega) z, fun _ => s_measureAll h cU hv (fun A a1 a2 => ?_)⟩
    have cA : FR Z A := cU.trans (FR.only [36] (by intro q hq; simp at hq; omega) (fun q hq => a1 q (by simpa using hq)))
    rw [eq_allBelow, cA.lo (by omega), c_P h, hP.2, bx_below (by omega)]
    refine s_layGo (ps := pA Z) (bs := 0) h cA (by omega) (by omega) a2 (fun W V' cW fW w31 w39 tW => ?_)
    rw [w39, bt0]
    rw [show 10 - v = (10 - (v + 1)) + 1 by omega, wdr_s] at hq
    refine ⟨fun g => s_betC h cW (nsl_le h) w31 (fun s hs => srP_may h hs) tW.2.2.1 ?_, fun g => ?_⟩
    · rw [and_kp h]
      unfold btr at hq
      rw [if_neg (by rw [g]; decide)] at hq
      refine ⟨fun g2 w e => ?_, fun g2 => ?_⟩
      · rw [if_neg g2] at hq
        rw [e, nI_1]
        exact ih W V' cW hq
      · rw [if_pos g2] at hq
        exact hq W V' cW
    · rw [if_pos (bfl g)] at hq
      exact hq W V' cW
theorem s_widM (h : Inv Z) (c : FR Z X) (hq : ∀ U V, FR Z U → Q (wdr Z (10 - cl Z 48 9) (cl Z 48 9)) U V) : PX10_wider X Y Q := by
  intro I5 h5
  have hS := i_sl h
  have hA := pA_lt h
  unfold BX10_wider_s
  intro w1 e1
  rw [c.2 9 (by omega), hS.2] at e1
  subst e1
  refine dn (n := 10) (P := fun v => ∀ U V, FR Z U → (∀ W V', FR Z W → Q (wdr Z (10 - v) v) W V') → I5 (nI v) U V) ?_ ?_ (cl Z 48 9) (by omega) X Y c hq
  · intro U V cU hq
    apply h5
    unfold BX10_wider_5
    exact ⟨fun _ => hq U V cU, fun z => absurd (by decide) z⟩
  · intro v hv ih U V cU hq
    apply h5
    unfold BX10_wider_5
    rw [show (10 : Int32) = nI 10 from rfl, le_nI (by omega) (by omega)]
    refine ⟨fun z => absurd z (by omega), fun _ => s_begin h cU (fun A cA u37 u38 u39 u41 u53 u54 u71 _ => ?_)⟩
    have y48 : ∀ j, j ≠ 41 → (sX A 48 41 (nI v)) 48 j = A 48 j := fun j hj => by rw [sX_eq]; unfold upd; rw [if_neg hj]
    refine s_goP (v := v) (ps := pA Z) (bs := 0) h hv (by omega) (by omega) ⟨cA.set48 (by omega), by rw [y48 37 (by decide)]; exact u37, by rw [y48 38 (by decide)]; exact u38, by rw [y48 39 (by decide)]; exact u39, by rw [sX_eq]; simp [upd], by rw [sX_ne (by decide)]; exact u71⟩ (by rw [y48 53 (by decide)]; exact u53) (fun ret B V' e => ?_)
    obtain ⟨e1, e2, e3, ⟨e0, _, e4⟩, e5⟩ := e
    rw [ret_0 e1]
    rw [show 10 - v = (10 - (v + 1)) + 1 by omega, wdr_s] at hq
    refine ⟨fun g => s_betM h e2 (nsl_le h) e3.1 e4.2.2.2.1 ?_, fun g => ?_⟩
    · rw [and_kp h]
      unfold btr at hq
      rw [if_neg g] at hq
      refine ⟨fun g2 w e => ?_, fun g2 => ?_⟩
      · rw [if_neg g2] at hq
        rw [e, nI_1]
        exact ih B V' e2 hq
      · rw [if_pos g2] at hq
        exact hq B V' e2
    · rw [if_pos g] at hq
      exact hq B V' e2
theorem pr_wider (h : Inv X) (hK : ∀ X2 Y2, Inv X2 → K X2 Y2) : PX9_wider X Y (fun r X1 Y1 => PX10_wider X1 Y1 (Kq K r)) :=
  s_widC h FR.refl (fun U V cU => s_widM h cU (fun W V' cW => kq rfl (hK _ _ (inv_FR h cW))))
end MANY
