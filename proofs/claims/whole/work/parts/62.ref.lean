/-! goThrough of the reference -/
def SR (Z : XT) (ps bs aw : Nat) (mu : Nat → Int32) (v : Nat) (wr wb : Int32) (k : Nat) (a : Nat → Nat) (rs : List (Nat → Nat)) (X : XT) (Y : YT) : Prop :=
  RCf Z ps bs aw mu v X ∧ RLd Z ps bs X ∧ (∀ x, x < k → X 73 x = nI (a x - 1)) ∧ X 73 k = nI (a k) - 1 ∧ TalM Z (nsl Z ps bs) (2 ^ dN Z - 1) rs X Y ∧ X 48 53 = wr ∧ X 48 54 = wb ∧ X 48 55 = -1
def EndM (Z : XT) (ps bs w : Nat) (wb : Int32) (L : Bool) (rs : List (Nat → Nat)) (ret : Int32) (X : XT) (Y : YT) : Prop :=
  ret = nI (!L).toNat ∧ FR Z X ∧ RLd Z ps bs X ∧ (∃ e, (nsl Z ps bs = 0 ∨ e = 2 ^ dN Z - 1) ∧ TalM Z (nsl Z ps bs) e rs X Y) ∧ (rs.length ≤ w → X 48 55 = -1) ∧ (w < rs.length → ∀ b s r rest, b < 10 → rs = r :: rest → wb = nI b → isBarS Z ps bs b s → X 48 55 = nI (r s - 1))
theorem m1p1 (x : Int32) : x - 1 + 1 = x := by grind
theorem pm1 {k : Nat} (h : 1 ≤ k) : nI k + -1 = nI (k - 1) := by
  rw [← pk_sub h]
  show nI k + -1 = nI k - 1
  grind
theorem nim1 {k : Nat} : nI (k + 1) - 1 = nI k := by
  rw [← nI_1]
  grind
section REF3
variable {Z X : XT} {Y : YT} {Q : Int32 → XT → YT → Prop} {QV : XT → YT → Prop} {ps bs aw v w : Nat} {mu : Nat → Int32} {wr wb : Int32} {al : Nat → Nat}
theorem RCf.set {q k : Nat} {x : Int32} (h : RCf Z ps bs aw mu v X) (hq : 72 ≤ q ∧ q ≤ 77) : RCf Z ps bs aw mu v (sX X q k x) := by
  obtain ⟨c, r37, r38, r39, r41, r71⟩ := h
  have e48 : sX X q k x 48 = X 48 := sX_ne (by omega)
  have e71 : sX X q k x 71 = X 71 := sX_ne (by omega)
  unfold RCf
  rw [e48, e71]
  exact ⟨c.set (by omega), r37, r38, r39, r41, r71⟩
theorem RCf.set48 {k : Nat} {x : Int32} (h : RCf Z ps bs aw mu v X) (hk : 42 ≤ k) : RCf Z ps bs aw mu v (sX X 48 k x) := by
  obtain ⟨c, r37, r38, r39, r41, r71⟩ := h
  have e48 : ∀ j, j ≠ k → sX X 48 k x 48 j = X 48 j := fun j hj => by rw [sX_eq]; unfold upd; rw [if_neg hj]
  have e71 : sX X 48 k x 71 = X 71 := sX_ne (by decide)
  unfold RCf
  rw [e48 37 (by omega), e48 38 (by omega), e48 39 (by omega), e48 41 (by omega), e71]
  exact ⟨c.set48 (by omega), r37, r38, r39, r41, r71⟩
theorem RLd.congr {U : XT} (h : RLd Z ps bs X) (h1 : U 48 43 = X 48 43) (h2 : U 72 = X 72) (h3 : U 77 = X 77) : RLd Z ps bs U := by
  unfold RLd
  rw [h1, h2, h3]
  exact h
theorem TalM.congr {m e : Nat} {rs : List (Nat → Nat)} {U : XT} {V : YT} (h : TalM Z m e rs X Y) (h1 : ∀ j, 44 ≤ j → j ≤ 52 → U 48 j = X 48 j) (h2 : U 75 = X 75) (h3 : V = Y) : TalM Z m e rs U V := by
  subst h3
  unfold TalM
  rw [h1 47 (by omega) (by omega), h1 51 (by omega) (by omega), h1 52 (by omega) (by omega), h2]
  exact h
theorem ref_run (h : Inv Z) (hv : v < 10) (haw : aw < 2147483648) (hw : w < 2147483648) (hwr : (wr = -1 ∧ 3000 ≤ w) ∨ wr = nI w) (hal : ∀ s, s < nsl Z ps bs → ∀ n, n < dN Z → ((al s).testBit n = true ↔ alM Z bs aw mu v (pls Z ps bs s) n)) {I15 I85 : Int32 → XT → YT → Prop} {I193 I102 : Int32 → Int32 → XT → YT → Prop} (h193 : ∀ a1 a2 X Y, BX10_goThrough_193 I15 I85 I193 I102 Q a1 a2 X Y → I193 a1 a2 X Y) {L : Bool} {rs' : List (Nat → Nat)} (hq : ∀ ret U V, EndM Z ps bs w wb L rs' ret U V → Q ret U V) : ∀ f k a t rs X Y, St (nsl Z ps bs) (dN Z) w k a t rs → SR Z ps bs aw mu v wr wb k a rs X Y → run (nsl Z ps bs) (dN Z) w (okS (fun s => cl Z 60 (pls Z ps bs s)) al (cl Z 56) (twB Z ps bs)) f k a t rs = some (L, rs') → I193 (nI t) (nI k) X Y := by
  intro f
  induction f with
  | zero =>
    intro k a t rs X Y _ _ hr
    cases hr
  | succ f ih =>
    intro k a t rs X Y hst hsr hr
    have hN := i_N h
    have hm := nsl_le (ps := ps) (bs := bs) h
    obtain ⟨p1, p2, p3, p4, p5, p6, p7⟩ := id hst
    obtain ⟨rc, rl, g1, g2, tm, e53, e54, e55⟩ := id hsr
    apply h193
    unfold BX10_goThrough_193
    rw [cl_nI (by omega), g2, m1p1]
    refine ⟨fun g => absurd g (nI_pos (by omega)), fun _ => ⟨vp_in_nI (by omega) (by omega), vp_in_nI (by omega) (by omega), fun X2 e2 => ⟨vp_in_nI (by omega) (by omega), ?_⟩⟩⟩
    have x48 : X2 48 = X 48 := by rw [e2, sX_ne (by decide)]
    have x73 : X2 73 k = nI (a k) := by rw [e2, sX_eq]; simp [upd]
    have rc2 : RCf Z ps bs aw mu v X2 := by rw [e2]; exact rc.set (by omega)
    have rl2 : RLd Z ps bs X2 := rl.congr (by rw [x48]) (by rw [e2, sX_ne (by decide)]) (by rw [e2, sX_ne (by decide)])
    have tm2 : TalM Z (nsl Z ps bs) (2 ^ dN Z - 1) rs X2 Y := tm.congr (fun j _ _ => by rw [x48]) (by rw [e2, sX_ne (by decide)]) rfl
    have g1' : ∀ x, x < k → X2 73 x = nI (a x - 1) := fun x hx => by
      rw [e2, sX_eq]
      unfold upd
      rw [if_neg (by omega)]
      exact g1 x hx
    have gn : ∀ x, x < k → X2 73 x = nI (a x - 1) ∧ a x - 1 < dN Z := fun x hx => ⟨g1' x hx, by have := p5 x hx; omega⟩
    have e1 : X2 48 1 = nI (dN Z) := by rw [rc2.1.2 1 (by omega)]; exact hN.2
    have e30 : (nI t = 3000) = (t = 3000) := eq_nI (b := 3000) (by omega) (by omega)
    rw [x73, e1, e30, i_lt, le_nI (by omega) (by omega)]
    have ends : rs' = rs → ∀ ret, ret = nI (!L).toNat → Q ret X2 Y := by
      intro e ret hret
      subst e
      exact hq ret X2 Y ⟨hret, rc2.1, rl2, ⟨_, Or.inr rfl, tm2⟩, fun _ => by rw [x48]; exact e55, fun z => absurd z (by omega)⟩
    unfold run at hr
    refine ⟨fun c1 => ?_, fun c1 w21 e21 => ?_⟩
    · rw [if_neg c1] at hr
      refine ⟨fun c2 w6 e6 => ⟨vp_in_nI (by omega) (by omega), ?_⟩, fun c2 => ?_⟩
      · rw [if_neg c2] at hr
        subst e6
        rw [nI_1]
        refine s_mayGive (a := a) h hv haw rc2 rl2 p1 (by omega) gn (hal k p1 (a k) (by omega)) (fun r hr8 => ?_)
        rw [hr8.z]
        refine ⟨fun c3 => ?_, fun c3 => ?_⟩
        · rw [if_neg c3] at hr
          refine ih k _ _ _ X2 Y (hst.no (by omega) (by omega)) ⟨rc2, rl2, fun x hx => by rw [nU_ne (by omega)]; exact g1' x hx, by rw [nU_eq, nim1]; exact x73, tm2, by rw [x48]; exact e53, by rw [x48]; exact e54, by rw [x48]; exact e55⟩ hr
        · have c3 := Classical.not_not.mp c3
          rw [if_pos c3] at hr
          rw [nI_1, rl2.1, eq_nI (by omega) (by omega)]
          refine ⟨fun c4 w14 e14 => ?_, fun c4 => ?_⟩
          · rw [if_neg c4] at hr
            subst e14
            rw [cl_nI (by omega)]
            refine ⟨vp_in_nI (by omega) (by omega), ?_⟩
            have y48 : sX X2 73 (k + 1) (-1) 48 = X 48 := by rw [sX_ne (by decide), x48]
            refine ih (k + 1) _ _ _ _ Y (hst.down (by omega) (by omega) c4) ⟨rc2.set (by omega), rl2.congr (by rw [y48, x48]) (sX_ne (by decide)) (sX_ne (by decide)), fun x hx => ?_, ?_, tm2.congr (fun j _ _ => by rw [y48, x48]) (sX_ne (by decide)) rfl, by rw [y48]; exact e53, by rw [y48]; exact e54, by rw [y48]; exact e55⟩ hr
            · rw [sX_eq, nU_ne (by omega)]
              unfold upd
              rw [if_neg (by omega)]
              by_cases e : x = k
              · rw [e, nU_eq, x73]
                rfl
              · rw [nU_ne e]
                exact g1' x (by omega)
            · rw [sX_eq, nU_eq]
              simp [upd]
              rfl
          · rw [if_pos c4] at hr
            have rd := hst.rd (by omega) c4
            refine s_takeM (r := nU a k (a k + 1)) h rc2.1 rl2 rd (fun j hj => ?_) tm2 (fun U V u1 u2 u3 u4 u5 => ?_)
            · by_cases e : j = k
              · rw [e, nU_eq, x73]
                rfl
              · rw [nU_ne e]
                exact g1' j (by omega)
            · have cU : FR Z U := by
                refine rc2.1.trans ⟨fun q h1 h2 h3 => u1 q h1 (by omega), fun j hj => u2 j (by omega) (by omega) (by omega) (by omega)⟩
              have rcU : RCf Z ps bs aw mu v U := by
                obtain ⟨c, r37, r38, r39, r41, r71⟩ := rc2
                refine ⟨cU, ?_, ?_, ?_, ?_, ?_⟩
                · rw [u2 37 (by decide) (by decide) (by decide) (by decide)]; exact r37
                · rw [u2 38 (by decide) (by decide) (by decide) (by decide)]; exact r38
                · rw [u2 39 (by decide) (by decide) (by decide) (by decide)]; exact r39
                · rw [u2 41 (by decide) (by decide) (by decide) (by decide)]; exact r41
                · rw [u1 71 (by decide) (by decide)]; exact r71
              have rlU : RLd Z ps bs U := rl2.congr (u2 43 (by decide) (by decide) (by decide) (by decide)) (u1 72 (by decide) (by decide)) (u1 77 (by decide) (by decide))
              have e47 : U 48 47 - 1 = nI rs.length := by rw [u3.1]; exact nim1
              have e53U : U 48 53 = wr := by rw [u2 53 (by decide) (by decide) (by decide) (by decide), x48]; exact e53
              rw [e47, e53U]
              have cond : (nI rs.length = wr) ↔ rs.length = w := by
                rcases hwr with ⟨z1, z2⟩ | z
                · rw [z1]
                  exact ⟨fun y => absurd y (nI_ne1 (by omega)), fun y => absurd y (by omega)⟩
                · rw [z, eq_nI (by omega) (by omega)]
              have e47' : (X2 48 47 = X2 48 53) ↔ rs.length = w := by rw [tm2.1, x48, e53]; exact cond
              refine ⟨fun c5 => ?_, fun c5 => ?_⟩
              · have c5' : ¬ rs.length = w := fun z => c5 (cond.mpr z)
                rw [if_neg c5'] at hr
                refine ih k _ _ _ U V (hst.read (by omega) (by omega) c4 c5') ⟨rcU, rlU, fun x hx => ?_, ?_, u3, e53U, ?_, ?_⟩ hr
                · rw [u1 73 (by decide) (by decide), nU_ne (by omega)]
                  exact g1' x hx
                · rw [u1 73 (by decide) (by decide), nU_eq, nim1]
                  exact x73
                · rw [u2 54 (by decide) (by decide) (by decide) (by decide), x48]
                  exact e54
                · rw [u4 (fun z => c5' (e47'.mp z)), x48]
                  exact e55
              · have c5' := cond.mp c5
                rw [if_pos c5'] at hr
                cases hr
                refine hq 1 U V ⟨rfl, cU, rlU, ⟨_, Or.inr rfl, u3⟩, fun z => ?_, fun _ b s r rest hb hrs hwb hbs => ?_⟩
                · simp at z
                  omega
                · cases hrs
                  exact u5 (e47'.mpr c5') b s hb (by rw [x48, e54]; exact hwb) hbs
      · rw [if_pos c2] at hr
        cases hr
        exact ends rfl 0 rfl
    · rw [if_pos (Classical.not_not.mp c1)] at hr
      by_cases hk : k = 0
      · rw [if_pos hk] at hr
        cases hr
        subst hk
        have : w21 = -1 := by rw [e21]; rfl
        subst this
        apply h193
        unfold BX10_goThrough_193
        exact ⟨fun _ => ends rfl 1 rfl, fun z => absurd (by decide) z⟩
      · rw [if_neg hk] at hr
        rw [e21, pm1 (by omega)]
        refine ih (k - 1) _ _ _ X2 Y (hst.back hk) ⟨rc2, rl2, fun x hx => g1' x (by omega), ?_, tm2, by rw [x48]; exact e53, by rw [x48]; exact e54, by rw [x48]; exact e55⟩ hr
        rw [g1' (k - 1) (by omega), show (1 : Int32) = nI 1 from rfl, pk_sub (p5 (k - 1) (by omega)).1]
theorem s_goM (h : Inv Z) (hv : v < 10) (hps : ps < 2147483648) (hbs : bs < 2147483648) (haw : aw < 2147483648) (hw : w < 2147483648) (hwr : (wr = -1 ∧ 3000 ≤ w) ∨ wr = nI w) (hal : ∀ s, s < nsl Z ps bs → ∀ n, n < dN Z → ((al s).testBit n = true ↔ alM Z bs aw mu v (pls Z ps bs s) n)) (rc : RCf Z ps bs aw mu v X) (e53 : X 48 53 = wr) (e54 : X 48 54 = wb) (hq : ∀ ret U V, EndM Z ps bs w wb (srch (nsl Z ps bs) (dN Z) w (okS (fun s => cl Z 60 (pls Z ps bs s)) al (cl Z 56) (twB Z ps bs))).1 (srch (nsl Z ps bs) (dN Z) w (okS (fun s => cl Z 60 (pls Z ps bs s)) al (cl Z 56) (twB Z ps bs))).2 ret U V → Q ret U V) : PX10_goThrough X Y Q := by
  intro I15 I85 I193 I102 h15 h85 h193 h102
  have hN := i_N h
  have hK := i_K h
  have hP := i_P h
  have hm := nsl_le (ps := ps) (bs := bs) h
  unfold BX10_goThrough_s
  obtain ⟨c, r37, r38, r39, r41, r71⟩ := id rc
  refine s_findOpen h c (fun U cU u1 u2 uo => ?_)
  have rcU : RCf Z ps bs aw mu v U := ⟨cU, by rw [u2 37 (by decide)]; exact r37, by rw [u2 38 (by decide)]; exact r38, by rw [u2 39 (by decide)]; exact r39, by rw [u2 41 (by decide)]; exact r41, by rw [u1 71 (by decide) (by decide)]; exact r71⟩
  refine s_findShown h cU uo hbs rcU.2.2.1 (fun W w1 w2 => ?_)
  -- the places that are read
  have w48 : W 48 = U 48 := w1 48 (by decide)
  have rcW : RCf Z ps bs aw mu v W := by
    obtain ⟨c, r37, r38, r39, r41, r71⟩ := rcU
    unfold RCf
    rw [w48, w1 71 (by decide)]
    exact ⟨cU.trans (FR.only [77] (by intro q hq; simp at hq; omega) (fun q hq => w1 q (by simpa using hq))), r37, r38, r39, r41, r71⟩
  have oW : OpenOK Z W := uo.congr (by rw [w48]) (w1 74 (by decide))
  have W53 : W 48 53 = wr := by rw [w48, u2 53 (by decide)]; exact e53
  have W54 : W 48 54 = wb := by rw [w48, u2 54 (by decide)]; exact e54
  refine dn (n := dK Z) (P := fun k => ∀ A : XT, RCf Z ps bs aw mu v A → OpenOK Z A → A 48 53 = wr → A 48 54 = wb → (∀ g, g < 8 → A 77 g = nI (shm Z bs g (dK Z))) → A 48 43 = nI (cnt (laidB Z ps bs) k) → (∀ p, p < k → laidB Z ps bs p = true → A 72 (cnt (laidB Z ps bs) p) = nI p) → I15 (nI k) A Y) ?_ ?_ 0 (by omega) (sX W 48 43 0) (rcW.set48 (by omega)) (oW.congr (by rw [sX_eq]; rfl) (sX_ne (by decide))) (by rw [sX_eq]; exact W53) (by rw [sX_eq]; exact W54) (by rw [sX_ne (by decide)]; exact w2) (by rw [sX_eq]; rfl) (fun p hp => absurd hp (by omega))
  · intro A rcA oA a53 a54 a77 a43 a72
    apply h15
    unfold BX10_goThrough_15
    rw [rcA.1.2 16 (by omega), hK.2, le_nI (by omega) (by omega)]
    refine ⟨fun _ => ?_, fun g => absurd (by omega) g⟩
    have rlA : RLd Z ps bs A := ⟨a43, fun s hs => by
      have pk := pls_ok hs
      have := a72 _ pk.1 pk.2.1
      rw [pk.2.2] at this
      exact this, a77⟩
    refine dn (n := nsl Z ps bs) (P := fun k => ∀ (T : XT) (V : YT), (∀ q, q ≠ 75 → T q = A q) → (∀ s, s < k → T 75 s = 0) → (∀ s n, s < k → n < 10 → V 76 (10 * s + n) = 0) → I85 (nI k) T V) ?_ ?_ 0 (by omega) A Y (fun _ _ => rfl) (fun s hs => absurd hs (by omega)) (fun s n hs => absurd hs (by omega))
    · intro T V t1 t2 t3
      apply h85
      unfold BX10_goThrough_85
      rw [t1 48 (by decide), a43, le_nI (by unfold nsl at hm; omega) (by omega)]
      refine ⟨fun _ X2 e2 => ?_, fun g => absurd (Nat.le_refl _) g⟩
      have i1 : (sX T 48 47 0) 48 1 = nI (dN Z) := by rw [sX_eq]; show T 48 1 = _; rw [t1 48 (by decide), rcA.1.2 1 (by omega)]; exact hN.2
      rw [i1, bx_below (by omega)] at e2
      have x48 : ∀ j, (sX (sX X2 48 52 0) 48 55 (-1)) 48 j = if j = 55 then -1 else if j = 52 then 0 else if j = 51 then nI (2 ^ dN Z - 1) else if j = 47 then 0 else A 48 j := by
        intro j
        rw [sX_eq, sX_eq, e2, sX_eq, sX_eq, t1 48 (by decide)]
        rfl
      have xq : ∀ q, q ≠ 48 → (sX (sX X2 48 52 0) 48 55 (-1)) q = T q := fun q hq => by rw [sX_ne hq, sX_ne hq, e2, sX_ne hq, sX_ne hq]
      have x43 : (sX (sX X2 48 52 0) 48 55 (-1)) 48 43 = nI (nsl Z ps bs) := by rw [x48]; exact a43
      have e0 : (nI (nsl Z ps bs) = 0) = (nsl Z ps bs = 0) := eq_nI (b := 0) (by omega) (by omega)
      rw [x43, e0]
      have rcT : RCf Z ps bs aw mu v T := by
        obtain ⟨c, r37, r38, r39, r41, r71⟩ := rcA
        unfold RCf
        rw [t1 48 (by decide), t1 71 (by decide)]
        exact ⟨c.trans (FR.only [75] (by intro q hq; simp at hq; omega) (fun q hq => t1 q (by simpa using hq))), r37, r38, r39, r41, r71⟩
      have rc2 : RCf Z ps bs aw mu v (sX (sX X2 48 52 0) 48 55 (-1)) := by
        rw [e2]
        exact (((rcT.set48 (by omega)).set48 (by omega)).set48 (by omega)).set48 (by omega)
      have rl2 : RLd Z ps bs (sX (sX X2 48 52 0) 48 55 (-1)) := rlA.congr (by rw [x48]; rfl) (by rw [xq 72 (by decide), t1 72 (by decide)]) (by rw [xq 77 (by decide), t1 77 (by decide)])
      have tal : ∀ e, TalM Z (nsl Z ps bs) e [] (sX (sX (sX X2 48 52 0) 48 55 (-1)) 48 51 (nI e)) (sY V 48 48 0) := by
        intro e
        refine ⟨?_, ?_, ?_, fun s hs => ?_, ?_, fun s n hs hn => ?_⟩
        · rw [sX_eq]
          show (sX (sX X2 48 52 0) 48 55 (-1)) 48 47 = _
          rw [x48]
          rfl
        · rw [sX_eq]
          simp [upd]
          rfl
        · rw [sX_eq]
          show (sX (sX X2 48 52 0) 48 55 (-1)) 48 52 = _
          rw [x48]
          rfl
        · rw [sX_ne (by decide), xq 75 (by decide), t2 s hs]
          rfl
        · rw [sY_eq]
          simp [vp_updL]
          rfl
        · rw [sY_ne (by decide), t3 s n hs hn]
          rfl
      refine ⟨fun g => ⟨vp_in_nI (n := 0) (by omega) (by omega), fun X5 e5 => ?_⟩, fun g X7 e7 => ?_⟩
      · have hr := srch_run (m := nsl Z ps bs) (N := dN Z) (w := w) (ok := okS (fun s => cl Z 60 (pls Z ps bs s)) al (cl Z 56) (twB Z ps bs)) hm (by omega)
        refine ref_run h hv haw hw hwr hal h193 hq fuel0 0 (fun _ => 0) 0 [] X5 _ (St.init (by omega)) ?_ hr
        have y48 : X5 48 = (sX (sX X2 48 52 0) 48 55 (-1)) 48 := by rw [e5, sX_ne (by decide)]
        refine ⟨by rw [e5]; exact rc2.set (by omega), rl2.congr (by rw [y48]) (by rw [e5, sX_ne (by decide)]) (by rw [e5, sX_ne (by decide)]), fun x hx => absurd hx (by omega), ?_, (tal (2 ^ dN Z - 1)).congr (fun j h1 h2 => ?_) ?_ rfl, ?_, ?_, ?_⟩
        · rw [e5, sX_eq]
          simp [upd]
          rfl
        · have er : (sX (sX (sX X2 48 52 0) 48 55 (-1)) 48 51 (nI (2 ^ dN Z - 1))) 48 j = if j = 51 then nI (2 ^ dN Z - 1) else (sX (sX X2 48 52 0) 48 55 (-1)) 48 j := by
            rw [sX_eq (q := 48) (k := 51)]
            rfl
          rw [er, y48]
          by_cases e : j = 51
          · rw [if_pos e, x48, e]
            rfl
          · rw [if_neg e]
        · rw [e5, sX_ne (q := 73) (by decide), sX_ne (q := 48) (k := 51) (by decide)]
        · rw [y48, x48]
          exact a53
        · rw [y48, x48]
          exact a54
        · rw [y48, x48]
          rfl
      · have es : srch (nsl Z ps bs) (dN Z) w (okS (fun s => cl Z 60 (pls Z ps bs s)) al (cl Z 56) (twB Z ps bs)) = (false, [fun _ => 0]) := by unfold srch; rw [if_pos g]
        rw [es] at hq
        have y48 : ∀ j, j ≠ 51 → X7 48 j = (sX (sX X2 48 52 0) 48 55 (-1)) 48 j := fun j hj => by rw [e7, sX_eq]; unfold upd; rw [if_neg hj]
        have yq : ∀ q, q ≠ 48 → X7 q = (sX (sX X2 48 52 0) 48 55 (-1)) q := fun q hq => by rw [e7, sX_ne hq]
        have c7 : FR Z X7 := by rw [e7]; exact rc2.1.set48 (by omega)
        have rl7 : RLd Z ps bs X7 := rl2.congr (y48 43 (by decide)) (yq 72 (by decide)) (yq 77 (by decide))
        refine s_takeM (r := fun _ => 0) (e := 0) (rs := []) h c7 rl7 (fun j hj => absurd hj (by omega)) (fun j hj => absurd hj (by omega)) (by rw [e7]; exact tal 0) (fun B V' b1 b2 b3 b4 b5 => hq 1 B V' ⟨rfl, ?_, rl7.congr (b2 43 (by decide) (by decide) (by decide) (by decide)) (b1 72 (by decide) (by decide)) (b1 77 (by decide) (by decide)), ⟨0, Or.inl g, b3⟩, fun z => ?_, fun _ b s r rest _ _ _ z => absurd z.1 (by omega)⟩)
        · exact c7.trans ⟨fun q h1 h2 h3 => b1 q h1 (by omega), fun j hj => b2 j (by omega) (by omega) (by omega) (by omega)⟩
        · have z : 1 ≤ w := z
          have h47 : X7 48 47 = nI 0 := by rw [y48 47 (by decide), x48]; rfl
          have h53 : X7 48 53 = wr := by rw [y48 53 (by decide), x48]; exact a53
          rw [b4 ?_, y48 55 (by decide), x48]
          · rfl
          · rw [h47, h53]
            rcases hwr with ⟨z1, z2⟩ | z1
            · rw [z1]
              decide
            · rw [z1, eq_nI (by omega) (by omega)]
              omega
    · intro k hk ih T V t1 t2 t3
      apply h85
      unfold BX10_goThrough_85
      rw [t1 48 (by decide), a43, le_nI (by unfold nsl at hm; omega) (by omega), cl_nI (by omega)]
      refine ⟨fun g => absurd g (by unfold nsl at hk; omega), fun _ => ⟨vp_in_nI (by omega) (by omega), ?_⟩⟩
      refine dn (n := 10) (P := fun i => ∀ V : YT, (∀ s n, s < k → n < 10 → V 76 (10 * s + n) = 0) → (∀ n, n < i → V 76 (10 * k + n) = 0) → I102 (nI k) (nI i) (sX T 75 k 0) V) ?_ ?_ 0 (by omega) V t3 (fun n hn => absurd hn (by omega))
      · intro V v1 v2
        apply h102
        unfold BX10_goThrough_102
        refine ⟨fun _ w' hw' => ?_, fun g => absurd (by decide) g⟩
        rw [hw', nI_1]
        refine ih _ V (fun q hq => by rw [sX_ne hq]; exact t1 q hq) (fun s hs => ?_) (fun s n hs hn => ?_)
        · rw [sX_eq]
          unfold upd
          by_cases e : s = k
          · rw [if_pos e]
          · rw [if_neg e]
            exact t2 s (by omega)
        · by_cases e : s = k
          · rw [e]
            exact v2 n hn
          · exact v1 s n (by omega) hn
      · intro i hi ihi V v1 v2
        apply h102
        unfold BX10_goThrough_102
        rw [show (10 : Int32) ≤ nI i ↔ 10 ≤ i from by rw [show (10 : Int32) = nI 10 from rfl, le_nI (by omega) (by omega)], mul10', cl_nI (by omega)]
        refine ⟨fun g => absurd g (by omega), fun _ => ⟨vp_in_nI (by omega) (by omega), fun Y4 e4 w' hw' => ?_⟩⟩
        rw [hw', nI_1]
        refine ihi Y4 (fun s n hs hn => ?_) (fun n hn => ?_)
        · rw [e4, sY_eq]
          unfold vp_updL
          rw [if_neg (by omega)]
          exact v1 s n hs hn
        · rw [e4, sY_eq]
          unfold vp_updL
          by_cases e : n = i
          · rw [if_pos (by omega)]
          · rw [if_neg (by omega)]
            exact v2 n (by omega)
  · intro k hk ih A rcA oA a53 a54 a77 a43 a72
    apply h15
    unfold BX10_goThrough_15
    have hpg := i_pg h hk
    have cA := rcA.1
    have hc : cnt (laidB Z ps bs) k ≤ nsl Z ps bs := cnt_mono _ (by omega)
    rw [cA.2 16 (by omega), hK.2, le_nI (by omega) (by omega), cl_nI (show k < 2147483648 by omega), cA.hi (show 48 < 60 by omega) (by omega), cA.hi (show 48 < 62 by omega) (by omega), hpg.2, rcA.2.1, bx_bit1 hps (by omega), lt0_sh h hk, a43, cl_nI (by omega)]
    have no : ¬ laidB Z ps bs k = true → ∀ w : Int32, w = nI k + 1 → I15 w A Y := by
      intro hn w hw
      rw [hw, nI_1]
      refine ih A rcA oA a53 a54 a77 (by rw [cnt_s, if_neg hn]; exact a43) (fun p hp hl => ?_)
      have : p ≠ k := fun e => hn (by rw [← e]; exact hl)
      exact a72 p (by omega) hl
    have yes : laidB Z ps bs k = true → ∀ X6 : XT, X6 = sX (sX A 72 (cnt (laidB Z ps bs) k) (nI k)) 48 43 (((sX A 72 (cnt (laidB Z ps bs) k) (nI k)) 48 43) + 1) → ∀ w : Int32, w = nI k + 1 → I15 w X6 Y := by
      intro hl X6 e6 w hw
      have e43 : (sX A 72 (cnt (laidB Z ps bs) k) (nI k)) 48 43 = nI (cnt (laidB Z ps bs) k) := by rw [sX_ne (by decide)]; exact a43
      rw [e43, nI_1] at e6
      rw [hw, nI_1]
      have y48 : ∀ j, j ≠ 43 → X6 48 j = A 48 j := fun j hj => by rw [e6, sX_eq]; unfold upd; rw [if_neg hj, sX_ne (by decide)]
      refine ih X6 (by rw [e6]; exact (rcA.set (by omega)).set48 (by omega)) (oA.congr (y48 46 (by decide)) (by rw [e6, sX_ne (by decide), sX_ne (by decide)])) (by rw [y48 53 (by decide)]; exact a53) (by rw [y48 54 (by decide)]; exact a54) (by rw [e6, sX_ne (by decide), sX_ne (by decide)]; exact a77) ?_ (fun p hp hlp => ?_)
      · rw [e6, sX_eq, cnt_s, if_pos hl]
        simp [upd]
      · rw [e6, sX_ne (by decide), sX_eq]
        unfold upd
        by_cases e : p = k
        · rw [e, if_pos rfl]
        · rw [if_neg (fun z => e (cnt_inj hlp hl z))]
          exact a72 p (by omega) hlp
    refine ⟨fun g => absurd g (by omega), fun _ => ⟨vp_in_nI (by omega) (by omega), fun g => no (fun z => ?_), fun g => ⟨vp_in_nI (by omega) (by omega), fun g2 => ⟨vp_in_nI (by omega) (by omega), yes ?_⟩, fun g2 => ?_⟩⟩⟩
    · unfold laidB at z
      rw [Bool.and_eq_true] at z
      exact g z.1
    · unfold laidB hidB
      simp [g, g2]
    · refine s_isBarred h cA oA hbs rcA.2.2.1 hk g2 ?_
      simp only [bI_0, Classical.not_not]
      rw [a43, cl_nI (by omega)]
      refine ⟨fun g3 => no (fun z => ?_), fun g3 => ⟨vp_in_nI (by omega) (by omega), yes ?_⟩⟩
      · unfold laidB at z
        rw [Bool.and_eq_true] at z
        exact g3 z.2
      · unfold laidB
        rw [Bool.and_eq_true]
        exact ⟨g, g3⟩
end REF3
