/-! THE REFERENCE: may a name be given -/
def TV (a : Int32) (p : Prop) : Prop := (a = 1 ∧ p) ∨ (a = 0 ∧ ¬ p)
theorem TV.nar {a : Int32} {p : Prop} (h : TV a p) : narrow .boolean (.int a) = .int a := by
  rcases h with ⟨e, -⟩ | ⟨e, -⟩ <;> subst e <;> rfl
theorem TV.z {a : Int32} {p : Prop} (h : TV a p) : (a = 0) = ¬ p := by
  apply propext
  rcases h with ⟨e, g⟩ | ⟨e, g⟩
  · subst e
    exact ⟨fun z => absurd z (by decide), fun z => absurd g z⟩
  · subst e
    exact ⟨fun _ => g, fun _ => rfl⟩
theorem TV.t {p : Prop} (h : p) : TV 1 p := Or.inl ⟨rfl, h⟩
theorem TV.f {p : Prop} (h : ¬ p) : TV 0 p := Or.inr ⟨rfl, h⟩
theorem TV.mp {a : Int32} {p q : Prop} (h : TV a p) (e : p ↔ q) : TV a q := by
  rcases h with ⟨z, g⟩ | ⟨z, g⟩
  · exact Or.inl ⟨z, e.mp g⟩
  · exact Or.inr ⟨z, fun y => g (e.mpr y)⟩
def RCf (Z : XT) (ps bs aw : Nat) (mu : Nat → Int32) (v : Nat) (X : XT) : Prop := FR Z X ∧ X 48 37 = nI ps ∧ X 48 38 = nI bs ∧ X 48 39 = nI aw ∧ X 48 41 = nI v ∧ ∀ b, b < 10 → X 71 b = mu b
def RLd (Z : XT) (ps bs : Nat) (X : XT) : Prop := X 48 43 = nI (nsl Z ps bs) ∧ (∀ s, s < nsl Z ps bs → X 72 s = nI (pls Z ps bs s)) ∧ ∀ g, g < 8 → X 77 g = nI (shm Z bs g (dK Z))
theorem prd_comm {A B : Nat → Int32} {T b c : Nat} : prd A B T b c ↔ prd A B T c b := ⟨fun ⟨t, h1, h2⟩ => ⟨t, h1, h2.symm⟩, fun ⟨t, h1, h2⟩ => ⟨t, h1, h2.symm⟩⟩
section MAYG
variable {Z X : XT} {Y : YT} {Q : Int32 → XT → YT → Prop} {QV : XT → YT → Prop} {ps bs aw v : Nat} {mu : Nat → Int32} {a : Nat → Nat} {k n : Nat}
theorem pls_mono {s t : Nat} (h : s ≤ t) (ht : t < nsl Z ps bs) : pls Z ps bs s ≤ pls Z ps bs t := by
  have a1 := pls_ok (Z := Z) (ps := ps) (bs := bs) (show s < nsl Z ps bs by omega)
  have a2 := pls_ok ht
  rcases Nat.lt_or_ge (pls Z ps bs t) (pls Z ps bs s) with g | g
  · have := cnt_lt a2.2.1 g
    omega
  · exact g
theorem s_twinsAgree (h : Inv Z) (c : FR Z X) (rl : RLd Z ps bs X) (hk : k < nsl Z ps bs) (hn : n < dN Z) (hg : ∀ x, x < k → X 73 x = nI (a x - 1) ∧ a x - 1 < dN Z) (hq : ∀ r, TV r (∀ x, x < k → twB Z ps bs k x = true → a x - 1 = n) → Q r X Y) : PX10_twinsAgree (nI k) (nI n) X Y Q := by
  intro I18 I50 I87 I110 I114 I115 h18 h50 h87 h110 h114 h115
  have hN := i_N h
  have hK := i_K h
  have hB := i_B h
  have hT := i_T h
  have hm := nsl_le (ps := ps) (bs := bs) h
  have pk := pls_ok hk
  unfold BX10_twinsAgree_s
  rw [cl_nI (by omega), rl.2.1 k hk, cl_nI (by omega), c.hi (by omega) (by omega), (i_ba h pk.1).1]
  refine ⟨vp_in_nI (by omega) (by omega), vp_in_nI (by omega) (by omega), fun w1 e1 => ?_⟩
  by_cases hb : Z 62 (pls Z ps bs k) = -1
  · rw [if_pos hb] at e1
    subst e1
    have hbb : cb (Z 62) (pls Z ps bs k) < dB Z := by
      have := cb_lt hb pk.1
      omega
    refine dn (n := k) (P := fun x => ∀ a4, TV a4 (∀ x', x' < x → twB Z ps bs k x' = true → a x' - 1 = n) → I18 (nI k) (nI n) (nI (cb (Z 62) (pls Z ps bs k))) a4 (nI x) X Y) ?_ ?_ 0 (by omega) 1 (TV.t (fun x hx => absurd hx (by omega)))
    · intro a4 ha
      apply h18
      unfold BX10_twinsAgree_18
      rw [le_nI (by omega) (by omega)]
      exact ⟨fun _ => ⟨ha.nar, hq a4 ha⟩, fun g => absurd (by omega) g⟩
    · intro x hx ih a4 ha
      apply h18
      unfold BX10_twinsAgree_18
      have px := pls_ok (Z := Z) (ps := ps) (bs := bs) (show x < nsl Z ps bs by omega)
      rw [le_nI (by omega) (by omega), cl_nI (by omega), rl.2.1 x (by omega), cl_nI (by omega), c.hi (by omega) (by omega), (i_ba h px.1).1]
      refine ⟨fun g => absurd g (by omega), fun _ => ⟨fun g => ⟨ha.nar, hq a4 ?_⟩, fun g => ⟨fun g2 => absurd g2 (nI_pos (by omega)), fun _ => ⟨vp_in_nI (by omega) (by omega), vp_in_nI (by omega) (by omega), fun w4 e4 => ?_⟩⟩⟩⟩
      · have g' := g
        rw [ha.z] at g'
        rw [g]
        exact TV.f (fun z => g' (fun x' hx' => z x' (by omega)))
      · have A : ∀ x', x' < x → twB Z ps bs k x' = true → a x' - 1 = n := by
          rw [ha.z] at g
          exact Classical.not_not.mp g
        have a1 : a4 = 1 := by
          rcases ha with ⟨e, -⟩ | ⟨e, -⟩
          · exact e
          · exact absurd e g
        subst a1
        have next : ∀ a4', TV a4' (twB Z ps bs k x = true → a x - 1 = n) → ∀ w : Int32, w = nI x + 1 → I18 (nI k) (nI n) (nI (cb (Z 62) (pls Z ps bs k))) a4' w X Y := by
          intro a4' ha' w hw
          rw [hw, nI_1]
          refine ih a4' (ha'.mp ⟨fun z x' hx' htw => ?_, fun z => z x (by omega)⟩)
          by_cases e : x' = x
          · subst e
            exact z htw
          · exact A x' (by omega) htw
        by_cases hc : Z 62 (pls Z ps bs x) = -1
        · rw [if_pos hc] at e4
          subst e4
          have hcc : cb (Z 62) (pls Z ps bs x) < dB Z := by
            have := cb_lt hc px.1
            omega
          have tw : twB Z ps bs k x = true ↔ prd (Z 66) (Z 67) (cl Z 48 24) (cb (Z 62) (pls Z ps bs k)) (cb (Z 62) (pls Z ps bs x)) := by
            unfold twB
            rw [Bool.and_eq_true, Bool.and_eq_true, decide_eq_true_iff, decide_eq_true_iff, i_prd h hbb hcc]
            exact ⟨fun z => z.2, fun z => ⟨⟨hb, hc⟩, z⟩⟩
          refine dn (n := cl Z 48 24) (P := fun t => ∀ a4, TV a4 (prd (Z 66) (Z 67) t (cb (Z 62) (pls Z ps bs k)) (cb (Z 62) (pls Z ps bs x)) → a x - 1 = n) → I50 (nI k) (nI n) (nI (cb (Z 62) (pls Z ps bs k))) a4 (nI x) (nI (cb (Z 62) (pls Z ps bs x))) (nI t) X Y) ?_ ?_ 0 (by omega) 1 (TV.t (fun ⟨t, ht, _⟩ => absurd ht (by omega)))
          · intro a4 ha
            apply h50
            unfold BX10_twinsAgree_50
            rw [c.2 24 (by omega), hT.2, le_nI (by omega) (by omega)]
            exact ⟨fun _ => next a4 (ha.mp (by rw [tw])), fun g => absurd (by omega) g⟩
          · intro t ht iht a4 ha
            have are : ∀ t0, TV t0 ((Z 66 t = nI (cb (Z 62) (pls Z ps bs k)) ∧ Z 67 t = nI (cb (Z 62) (pls Z ps bs x))) ∨ (Z 66 t = nI (cb (Z 62) (pls Z ps bs x)) ∧ Z 67 t = nI (cb (Z 62) (pls Z ps bs k)))) → I115 (nI k) (nI n) (nI (cb (Z 62) (pls Z ps bs k))) a4 (nI x) (nI (cb (Z 62) (pls Z ps bs x))) (nI t) t0 X Y := by
              intro t0 ht0
              have st : prd (Z 66) (Z 67) (t + 1) (cb (Z 62) (pls Z ps bs k)) (cb (Z 62) (pls Z ps bs x)) ↔ prd (Z 66) (Z 67) t (cb (Z 62) (pls Z ps bs k)) (cb (Z 62) (pls Z ps bs x)) ∨ ((Z 66 t = nI (cb (Z 62) (pls Z ps bs k)) ∧ Z 67 t = nI (cb (Z 62) (pls Z ps bs x))) ∨ (Z 66 t = nI (cb (Z 62) (pls Z ps bs x)) ∧ Z 67 t = nI (cb (Z 62) (pls Z ps bs k)))) := by
                constructor
                · rintro ⟨t', z1, z2⟩
                  by_cases e : t' = t
                  · subst e
                    exact Or.inr z2
                  · exact Or.inl ⟨t', by omega, z2⟩
                · rintro (⟨t', z1, z2⟩ | z2)
                  · exact ⟨t', by omega, z2⟩
                  · exact ⟨t, by omega, z2⟩
              have gx := hg x hx
              apply h115
              unfold BX10_twinsAgree_115
              rw [cl_nI (by omega), gx.1, eq_nI (by omega) (by omega)]
              refine ⟨fun g w hw => ?_, fun g => ⟨fun g2 w hw => ?_, fun g2 => ⟨vp_in_nI (by omega) (by omega), fun g3 w hw => ?_, fun g3 w hw => ?_⟩⟩⟩
              · rw [hw, nI_1]
                rw [ha.z] at g
                exact iht 0 (TV.f (fun z => g (fun y => z (st.mpr (Or.inl y)))))
              · rw [hw, nI_1]
                rw [ha.z] at g
                rw [ht0.z] at g2
                refine iht 1 (TV.t (fun z => ?_))
                rcases st.mp z with z | z
                · exact Classical.not_not.mp g z
                · exact absurd z g2
              · rw [hw, nI_1]
                rw [ht0.z] at g2
                exact iht 0 (TV.f (fun z => g3 (z (st.mpr (Or.inr (Classical.not_not.mp g2))))))
              · rw [hw, nI_1]
                exact iht 1 (TV.t (fun _ => g3))
            have yes : ((Z 66 t = nI (cb (Z 62) (pls Z ps bs k)) ∧ Z 67 t = nI (cb (Z 62) (pls Z ps bs x))) ∨ (Z 66 t = nI (cb (Z 62) (pls Z ps bs x)) ∧ Z 67 t = nI (cb (Z 62) (pls Z ps bs k)))) → I110 (nI k) (nI n) (nI (cb (Z 62) (pls Z ps bs k))) a4 (nI x) (nI (cb (Z 62) (pls Z ps bs x))) (nI t) X Y := fun z => by
              apply h110
              exact are 1 (TV.t z)
            have no : ¬ ((Z 66 t = nI (cb (Z 62) (pls Z ps bs k)) ∧ Z 67 t = nI (cb (Z 62) (pls Z ps bs x))) ∨ (Z 66 t = nI (cb (Z 62) (pls Z ps bs x)) ∧ Z 67 t = nI (cb (Z 62) (pls Z ps bs k)))) → I114 (nI k) (nI n) (nI (cb (Z 62) (pls Z ps bs k))) a4 (nI x) (nI (cb (Z 62) (pls Z ps bs x))) (nI t) X Y := fun z => by
              apply h114
              exact are 0 (TV.f z)
            have s87 : ¬ (Z 66 t = nI (cb (Z 62) (pls Z ps bs k)) ∧ Z 67 t = nI (cb (Z 62) (pls Z ps bs x))) → I87 (nI k) (nI n) (nI (cb (Z 62) (pls Z ps bs k))) a4 (nI x) (nI (cb (Z 62) (pls Z ps bs x))) (nI t) X Y := fun z => by
              apply h87
              unfold BX10_twinsAgree_87
              rw [cl_nI (by omega), c.hi (show 48 < 66 by omega) (by omega), c.hi (show 48 < 67 by omega) (by omega)]
              exact ⟨vp_in_nI (by omega) (by omega), fun g => no (fun y => y.elim z (fun y => g y.1)), fun g => ⟨vp_in_nI (by omega) (by omega), fun g2 => no (fun y => y.elim z (fun y => g2 y.2)), fun g2 => yes (Or.inr ⟨g, g2⟩)⟩⟩
            apply h50
            unfold BX10_twinsAgree_50
            rw [c.2 24 (by omega), hT.2, le_nI (by omega) (by omega), cl_nI (by omega), c.hi (show 48 < 66 by omega) (by omega), c.hi (show 48 < 67 by omega) (by omega)]
            exact ⟨fun g => absurd g (by omega), fun _ => ⟨fun g => absurd g (nI_pos (by omega)), fun _ => ⟨vp_in_nI (by omega) (by omega), fun g => s87 (fun y => g y.1), fun g => ⟨vp_in_nI (by omega) (by omega), fun g2 => yes (Or.inl ⟨g, g2⟩), fun g2 => s87 (fun y => g2 y.2)⟩⟩⟩⟩
        · rw [if_neg hc] at e4
          subst e4
          have nt : TV 1 (twB Z ps bs k x = true → a x - 1 = n) := TV.t (fun z => by
            unfold twB at z
            simp [hc] at z)
          apply h50
          unfold BX10_twinsAgree_50
          exact ⟨fun _ => next 1 nt, fun _ => ⟨fun _ => next 1 nt, fun g => absurd (by decide) g⟩⟩
  · rw [if_neg hb] at e1
    subst e1
    have nt : TV 1 (∀ x, x < k → twB Z ps bs k x = true → a x - 1 = n) := TV.t (fun x hx z => by
      unfold twB at z
      simp [hb] at z)
    apply h18
    unfold BX10_twinsAgree_18
    exact ⟨fun _ => ⟨nt.nar, hq 1 nt⟩, fun _ => ⟨fun g => absurd g (by decide), fun _ => ⟨fun _ => ⟨nt.nar, hq 1 nt⟩, fun g => absurd (by decide) g⟩⟩⟩
theorem som_iff (h : Inv Z) {g n : Nat} (hn : n < dN Z) : (som Z bs g (dK Z)).testBit n = false ↔ (shm Z bs g (dK Z)).testBit n = false ∧ shm Z bs g (dK Z) &&& cl Z 56 n = 0 := by
  have e1 : (som Z bs g (dK Z)).testBit n = true ↔ ∃ p, p < dK Z ∧ (cl Z 60 p = g ∧ hidB Z bs p = false) ∧ (cl Z 62 p = n ∨ (cl Z 56 (cl Z 62 p)).testBit n = true) := by
    unfold som
    rw [orM_bit]
    constructor
    · rintro ⟨p, z1, z2⟩
      by_cases e : cl Z 60 p = g ∧ hidB Z bs p = false
      · rw [if_pos e, Nat.testBit_or, Bool.or_eq_true, Nat.testBit_two_pow, decide_eq_true_iff] at z2
        exact ⟨p, z1, e, z2⟩
      · rw [if_neg e] at z2
        simp at z2
    · rintro ⟨p, z1, e, z2⟩
      refine ⟨p, z1, ?_⟩
      rw [if_pos e, Nat.testBit_or, Bool.or_eq_true, Nat.testBit_two_pow, decide_eq_true_iff]
      exact z2
  have e2 : ∀ i, (shm Z bs g (dK Z)).testBit i = true ↔ ∃ p, p < dK Z ∧ (cl Z 60 p = g ∧ hidB Z bs p = false) ∧ cl Z 62 p = i := by
    intro i
    unfold shm
    rw [orM_bit]
    constructor
    · rintro ⟨p, z1, z2⟩
      by_cases e : cl Z 60 p = g ∧ hidB Z bs p = false
      · rw [if_pos e, Nat.testBit_two_pow, decide_eq_true_iff] at z2
        exact ⟨p, z1, e, z2⟩
      · rw [if_neg e] at z2
        simp at z2
    · rintro ⟨p, z1, e, z2⟩
      refine ⟨p, z1, ?_⟩
      rw [if_pos e, Nat.testBit_two_pow, decide_eq_true_iff]
      exact z2
  have nf : ∀ b : Bool, b = false ↔ ¬ b = true := fun b => by cases b <;> simp
  rw [nf, e1, nf, e2]
  constructor
  · intro z
    refine ⟨fun ⟨p, z1, z2, z3⟩ => z ⟨p, z1, z2, Or.inl z3⟩, ?_⟩
    apply Nat.eq_of_testBit_eq
    intro i
    rw [Nat.testBit_and, Nat.zero_testBit, nf, Bool.and_eq_true, e2]
    rintro ⟨⟨p, z1, z2, z3⟩, z4⟩
    refine z ⟨p, z1, z2, Or.inr ?_⟩
    rw [z3, i_nvs h]
    exact z4
  · rintro ⟨z1, z2⟩ ⟨p, y1, y2, y3⟩
    rcases y3 with y3 | y3
    · exact z1 ⟨p, y1, y2, y3⟩
    · have := congrArg (fun z => z.testBit (cl Z 62 p)) z2
      simp only [Nat.testBit_and, Nat.zero_testBit] at this
      rw [i_nvs h n, y3, Bool.and_true] at this
      rw [(e2 _).mpr ⟨p, y1, y2, rfl⟩] at this
      cases this
/-- the reference's grounds, place by place -/
def alM (Z : XT) (bs aw : Nat) (mu : Nat → Int32) (v p n : Nat) : Prop := aw.testBit n = false ∧ (Z 62 p = -1 → mu (cb (Z 62) p) = -1 ∨ mu (cb (Z 62) p) = nI n) ∧ fitB Z v p n = true ∧ (som Z bs (cl Z 60 p) (dK Z)).testBit n = false
theorem shm_lt (h : Inv Z) {g k : Nat} (hk : k ≤ dK Z) : shm Z bs g k < 2 ^ dN Z := by
  refine orM_lt k (fun p hp => ?_)
  split
  · next z =>
    have hsh : cl Z 62 p < dN Z ∧ Z 62 p = nI (cl Z 62 p) := by
      rcases i_sh h (show p < dK Z by omega) with w | w
      · unfold hidB at z
        simp [w] at z
      · exact w
    exact Nat.pow_lt_pow_right (by decide) hsh.1
  · exact Nat.two_pow_pos _
theorem s_mayGive (h : Inv Z) (hv : v < 10) (haw : aw < 2147483648) (rc : RCf Z ps bs aw mu v X) (rl : RLd Z ps bs X) (hk : k < nsl Z ps bs) (hn : n < dN Z) (hg : ∀ x, x < k → X 73 x = nI (a x - 1) ∧ a x - 1 < dN Z) {al : Nat → Nat} (hal : (al k).testBit n = true ↔ alM Z bs aw mu v (pls Z ps bs k) n) (hq : ∀ r, TV r (okS (fun s => cl Z 60 (pls Z ps bs s)) al (cl Z 56) (twB Z ps bs) k a n = true) → Q r X Y) : PX10_mayGive (nI k) (nI n) X Y Q := by
  intro I54 I81 h54 h81
  obtain ⟨c, r37, r38, r39, r41, r71⟩ := rc
  have hN := i_N h
  have hK := i_K h
  have hB := i_B h
  have hP := i_P h
  have hm := nsl_le (ps := ps) (bs := bs) h
  have pk := pls_ok hk
  have ppg := i_pg h pk.1
  unfold BX10_mayGive_s
  refine ⟨vp_in_nI (by omega) (by omega), fun w1 e1 => ?_⟩
  rw [cl_nI (by omega), rl.2.1 k hk] at e1
  subst e1
  rw [cl_nI (show pls Z ps bs k < 2147483648 by omega), c.hi (by omega) (by omega), (i_ba h pk.1).1, r39, bx_bit1 haw (by omega)]
  refine ⟨vp_in_nI (by omega) (by omega), fun w3 e3 => ?_⟩
  have no : ¬ alM Z bs aw mu v (pls Z ps bs k) n → Q 0 X Y := fun z => hq 0 (TV.f (fun y => z (hal.mp (okS_iff.mp y).1)))
  have rest : aw.testBit n = false → (Z 62 (pls Z ps bs k) = -1 → mu (cb (Z 62) (pls Z ps bs k)) = -1 ∨ mu (cb (Z 62) (pls Z ps bs k)) = nI n) → I54 (nI k) (nI n) (nI (pls Z ps bs k)) X Y := by
    intro ha hmu
    apply h54
    unfold BX10_mayGive_54
    refine s_fitsAt h c hn pk.1 hv r41 ?_
    simp only [bI_0]
    refine ⟨fun g => ⟨vp_in_nI (by omega) (by omega), ?_⟩, fun g => no (fun z => g z.2.2.1)⟩
    have g := Classical.not_not.mp g
    rw [cl_nI (show pls Z ps bs k < 2147483648 by omega), c.hi (show 48 < 60 by omega) (by omega), ppg.2, cl_nI (by omega), rl.2.2 _ (by omega)]
    refine ⟨vp_in_nI (by omega) (by omega), fun w6 e6 => ?_⟩
    subst e6
    refine dn (n := k) (P := fun j => ∀ th, th < 2 ^ dN Z → (∀ i, th.testBit i = true ↔ (shm Z bs (cl Z 60 (pls Z ps bs k)) (dK Z)).testBit i = true ∨ ∃ x, x < j ∧ cl Z 60 (pls Z ps bs x) = cl Z 60 (pls Z ps bs k) ∧ a x - 1 = i) → I81 (nI k) (nI n) (nI (pls Z ps bs k)) (nI th) (nI j) X Y) ?_ ?_ 0 (by omega) _ (shm_lt h (Nat.le_refl _)) (fun i => ⟨Or.inl, fun z => z.elim id (fun ⟨x, hx, _⟩ => absurd hx (by omega))⟩)
    · intro th hth hb
      apply h81
      unfold BX10_mayGive_81
      have l1 := pow_le_1024 hN.1 hth
      have nv := i_nv (j := n) h
      have l2 := pow_le_1024 hN.1 nv.1
      have l3 : th &&& cl Z 56 n < 2 ^ dN Z := Nat.and_lt_two_pow _ nv.1
      have l4 := pow_le_1024 hN.1 l3
      have e0 : (nI (th &&& cl Z 56 n) = 0) = (th &&& cl Z 56 n = 0) := eq_nI (b := 0) (by omega) (by omega)
      rw [le_nI (by omega) (by omega), bx_bit0 (by omega) (by omega), cl_nI (show n < 2147483648 by omega), c.hi (by omega) (by omega), nv.2, bx_and, e0]
      have key : okS (fun s => cl Z 60 (pls Z ps bs s)) al (cl Z 56) (twB Z ps bs) k a n = true ↔ (th.testBit n = false ∧ th &&& cl Z 56 n = 0) ∧ ∀ x, x < k → twB Z ps bs k x = true → a x - 1 = n := by
        rw [okS_iff, hal]
        have nf : ∀ b : Bool, b = false ↔ ¬ b = true := fun b => by cases b <;> simp
        constructor
        · rintro ⟨⟨z1, z2, z3, z4⟩, z5, z6⟩
          rw [som_iff h hn] at z4
          refine ⟨⟨?_, ?_⟩, z6⟩
          · rw [nf, hb]
            rintro (y | ⟨x, y1, y2, y3⟩)
            · rw [z4.1] at y
              cases y
            · exact (z5 x y1 y2).1 y3
          · apply Nat.eq_of_testBit_eq
            intro i
            rw [Nat.testBit_and, Nat.zero_testBit, nf, Bool.and_eq_true, hb]
            rintro ⟨y | ⟨x, y1, y2, y3⟩, y4⟩
            · have := congrArg (fun z => z.testBit i) z4.2
              simp only [Nat.testBit_and, Nat.zero_testBit] at this
              rw [y, y4] at this
              cases this
            · have := (z5 x y1 y2).2
              rw [y3, i_nvs h, y4] at this
              cases this
        · rintro ⟨⟨z1, z2⟩, z3⟩
          have z2' : ∀ i, th.testBit i = true → (cl Z 56 n).testBit i = false := fun i hi => by
            have := congrArg (fun z => z.testBit i) z2
            simp only [Nat.testBit_and, Nat.zero_testBit] at this
            rw [hi, Bool.true_and] at this
            exact this
          refine ⟨⟨ha, hmu, g, (som_iff h hn).mpr ⟨?_, ?_⟩⟩, fun x hx hp => ⟨?_, ?_⟩, z3⟩
          · rw [nf]
            intro y
            rw [(hb n).mpr (Or.inl y)] at z1
            cases z1
          · apply Nat.eq_of_testBit_eq
            intro i
            rw [Nat.testBit_and, Nat.zero_testBit, nf, Bool.and_eq_true]
            rintro ⟨y1, y2⟩
            rw [z2' i ((hb i).mpr (Or.inl y1))] at y2
            cases y2
          · intro e
            rw [(hb n).mpr (Or.inr ⟨x, hx, hp, e⟩)] at z1
            cases z1
          · rw [i_nvs h]
            exact z2' _ ((hb _).mpr (Or.inr ⟨x, hx, hp, rfl⟩))
      have nf : ∀ b : Bool, ¬ b = false → b = true := fun b => by cases b <;> simp
      refine ⟨fun _ => ⟨fun g2 => hq 0 (TV.f (fun z => g2 (key.mp z).1.1)), fun g2 => ⟨vp_in_nI (by omega) (by omega), fun g3 => hq 0 (TV.f (fun z => g3 (key.mp z).1.2)), fun g3 => s_twinsAgree h c rl hk hn hg (fun r hr => ?_)⟩⟩, fun g2 => absurd (by omega) g2⟩
      have hr' := hr.mp (q := okS (fun s => cl Z 60 (pls Z ps bs s)) al (cl Z 56) (twB Z ps bs) k a n = true) ⟨fun z => key.mpr ⟨⟨g2, g3⟩, z⟩, fun z => (key.mp z).2⟩
      refine ⟨fun g4 => ?_, fun g4 => ?_⟩
      · rw [hr'.z] at g4
        exact hq 0 (TV.f g4)
      · rw [hr'.z] at g4
        exact hq 1 (TV.t (Classical.not_not.mp g4))
    · intro j hj ih th hth hb
      apply h81
      unfold BX10_mayGive_81
      have pj := pls_ok (Z := Z) (ps := ps) (bs := bs) (show j < nsl Z ps bs by omega)
      have jpg := i_pg h pj.1
      have gj := hg j hj
      rw [le_nI (by omega) (by omega), cl_nI (show j < 2147483648 by omega), rl.2.1 j (by omega), cl_nI (show pls Z ps bs j < 2147483648 by omega), cl_nI (show pls Z ps bs k < 2147483648 by omega), c.hi (show 48 < 60 by omega) (by omega), jpg.2, ppg.2, eq_nI (by omega) (by omega), gj.1, bx_1shl (by omega), bx_or, Int32.or_zero]
      have hstep : ∀ i, (∃ x, x < j + 1 ∧ cl Z 60 (pls Z ps bs x) = cl Z 60 (pls Z ps bs k) ∧ a x - 1 = i) ↔ (∃ x, x < j ∧ cl Z 60 (pls Z ps bs x) = cl Z 60 (pls Z ps bs k) ∧ a x - 1 = i) ∨ (cl Z 60 (pls Z ps bs j) = cl Z 60 (pls Z ps bs k) ∧ a j - 1 = i) := by
        intro i
        constructor
        · rintro ⟨x, z1, z2⟩
          by_cases e : x = j
          · subst e
            exact Or.inr z2
          · exact Or.inl ⟨x, by omega, z2⟩
        · rintro (⟨x, z1, z2⟩ | z2)
          · exact ⟨x, by omega, z2⟩
          · exact ⟨j, by omega, z2⟩
      refine ⟨fun g2 => absurd g2 (by omega), fun _ => ⟨vp_in_nI (by omega) (by omega), vp_in_nI (by omega) (by omega), vp_in_nI (by omega) (by omega), fun g2 w hw w2 hw2 => ?_, fun g2 => ⟨vp_in_nI (by omega) (by omega), fun w hw w2 hw2 => ?_⟩⟩⟩
      · rw [hw, hw2, nI_1]
        refine ih th hth (fun i => ?_)
        rw [hb i, hstep i]
        constructor
        · rintro (z | z)
          · exact Or.inl z
          · exact Or.inr (Or.inl z)
        · rintro (z | z | z)
          · exact Or.inl z
          · exact Or.inr z
          · exact absurd z.1 g2
      · rw [hw, hw2, nI_1]
        refine ih _ (Nat.or_lt_two_pow hth (Nat.pow_lt_pow_right (by decide) gj.2)) (fun i => ?_)
        rw [Nat.testBit_or, Bool.or_eq_true, hb i, hstep i, Nat.testBit_two_pow, decide_eq_true_iff]
        constructor
        · rintro ((z | z) | z)
          · exact Or.inl z
          · exact Or.inr (Or.inl z)
          · exact Or.inr (Or.inr ⟨g2, z⟩)
        · rintro (z | z | z)
          · exact Or.inl (Or.inl z)
          · exact Or.inl (Or.inr z)
          · exact Or.inr z.2
  have awf : ¬ aw.testBit n = true → aw.testBit n = false := fun z => by
    cases hh : aw.testBit n with
    | false => rfl
    | true => exact absurd hh z
  refine ⟨fun g => no (fun z => by rw [z.1] at g; cases g), fun g => ?_⟩
  by_cases hb : Z 62 (pls Z ps bs k) = -1
  · rw [if_pos hb] at e3
    subst e3
    have hbb : cb (Z 62) (pls Z ps bs k) < dB Z := by
      have := cb_lt hb pk.1
      omega
    rw [cl_nI (by omega), r71 _ (by omega)]
    exact ⟨fun z => absurd z (nI_pos (by omega)), fun _ => ⟨vp_in_nI (by omega) (by omega), fun g2 => rest (awf g) (fun _ => Or.inl g2), fun g2 => ⟨vp_in_nI (by omega) (by omega), fun g3 => no (fun z => (z.2.1 hb).elim g2 g3), fun g3 => rest (awf g) (fun _ => Or.inr g3)⟩⟩⟩
  · rw [if_neg hb] at e3
    subst e3
    exact ⟨fun _ => rest (awf g) (fun z => absurd z hb), fun z => absurd (by decide) z⟩
end MAYG
