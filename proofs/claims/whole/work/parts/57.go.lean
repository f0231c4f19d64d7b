/-! THE CLASS'S SEARCH goes as the machine goes -/
def SC (Z : XT) (m : Nat) (pg al : Nat → Nat) (tw : Nat → Nat → Bool) (B : XT) (k : Nat) (a : Nat → Nat) (t : Nat) (rs : List (Nat → Nat)) (X : XT) (Y : YT) : Prop :=
  (∀ q, q < 39 ∨ 47 ≤ q → X q = B q) ∧ (X 40 5 = B 40 5 ∧ X 40 6 = B 40 6) ∧ X 39 9 = nI t ∧ X 39 11 = 0 ∧
  (∃ fn, fn ≤ m ∧ X 39 10 = nI fn ∧ ∀ s, s < fn → ∃ n, n < dN Z ∧ X 42 s = nI n ∧ (tMay s rs).testBit n = true) ∧
  (∀ s, s ≤ k → X 43 s = nI (a s)) ∧ (∀ s, s < k → X 42 s = nI (a s - 1)) ∧
  (∀ s, s ≤ k → ∃ so, X 44 s = nI so ∧ SO Z pg a s so) ∧ (∀ s, s ≤ k → ∃ f, X 45 s = nI f ∧ FRE Z pg al tw a s f) ∧
  (∀ s, s < k → X 46 s = nI (orM (fun j => 2 ^ (a j - 1)) (s + 1))) ∧ (∀ s, s < k → Y 47 s = tProd (Z 55) a (s + 1)) ∧ Tal Z m rs X Y
def EndC (Z : XT) (m w : Nat) (B : XT) (L : Bool) (rs : List (Nat → Nat)) (X : XT) (Y : YT) : Prop :=
  (∀ q, q < 39 ∨ 47 ≤ q → X q = B q) ∧ (X 40 5 = B 40 5 ∧ X 40 6 = B 40 6) ∧ X 39 11 = nI L.toNat ∧ Tal Z m rs X Y ∧ (w < rs.length → ∀ r rest, rs = r :: rest → ∀ s, s < m → X 42 s = nI (r s - 1))
theorem SO.congr {Z : XT} {pg a b : Nat → Nat} {s so : Nat} (h : ∀ j, j < s → a j = b j) (g : SO Z pg a s so) : SO Z pg b s so := by
  refine ⟨g.1, fun n => (g.2 n).trans ⟨?_, ?_⟩⟩
  · rintro ⟨x, hx, z⟩
    exact ⟨x, hx, by rw [← h x hx]; exact z⟩
  · rintro ⟨x, hx, z⟩
    exact ⟨x, hx, by rw [h x hx]; exact z⟩
theorem FRE.congr {Z : XT} {pg al a b : Nat → Nat} {tw : Nat → Nat → Bool} {s f : Nat} (h : ∀ j, j < s → a j = b j) (g : FRE Z pg al tw a s f) : FRE Z pg al tw b s f := ⟨g.1, fun n => (g.2 n).trans (okS_congr s a b n h)⟩
theorem Tal.congr {Z : XT} {m : Nat} {rs : List (Nat → Nat)} {X U : XT} {Y V : YT} (h : Tal Z m rs X Y) (h1 : U 40 = X 40) (h2 : U 41 = X 41) (h3 : V 40 = Y 40) : Tal Z m rs U V := by
  unfold Tal
  rw [h1, h2, h3]
  exact h
section GO
variable {Z B X : XT} {Y : YT} {Q : Int32 → XT → YT → Prop} {QV : XT → YT → Prop} {m : Nat} {pg al : Nat → Nat} {tw : Nat → Nat → Bool} {k t : Nat} {a : Nat → Nat} {rs : List (Nat → Nat)}
/-- tries are counted, what was tried is kept -/
theorem SC.mv (s : SC Z m pg al tw B k a t rs X Y) {t' v : Nat} : SC Z m pg al tw B k (nU a k v) t' rs (sX (sX (sX X 39 9 (nI t')) 43 k (nI v)) 39 11 0) Y := by
  obtain ⟨s1, s2, s3, s4, ⟨fn, f1, f2, f3⟩, s6, s7, s8, s9, s10, s11, s12⟩ := s
  have ne : ∀ q, q ≠ 39 → q ≠ 43 → (sX (sX (sX X 39 9 (nI t')) 43 k (nI v)) 39 11 0) q = X q := fun q h1 h2 => by rw [sX_ne h1, sX_ne h2, sX_ne h1]
  have e39 : ∀ j, (sX (sX (sX X 39 9 (nI t')) 43 k (nI v)) 39 11 0) 39 j = if j = 11 then 0 else if j = 9 then nI t' else X 39 j := fun j => by rw [sX_eq, sX_ne (by decide), sX_eq]; rfl
  refine ⟨fun q hq => by rw [ne q (by omega) (by omega)]; exact s1 q hq, by rw [ne 40 (by decide) (by decide)]; exact s2, by rw [e39]; rfl, by rw [e39]; rfl, ⟨fn, f1, by rw [e39]; exact f2, by rw [ne 42 (by decide) (by decide)]; exact f3⟩, fun s hs => ?_, fun s hs => ?_, fun s hs => ?_, fun s hs => ?_, fun s hs => ?_, fun s hs => ?_, s12.congr (ne 40 (by decide) (by decide)) (ne 41 (by decide) (by decide)) rfl⟩
  · rw [sX_ne (by decide), sX_eq, sX_ne (by decide)]
    unfold upd nU
    by_cases e : s = k
    · rw [if_pos e, if_pos e]
    · rw [if_neg e, if_neg e]
      exact s6 s hs
  · rw [ne 42 (by decide) (by decide), nU_ne (by omega)]
    exact s7 s hs
  · rw [ne 44 (by decide) (by decide)]
    obtain ⟨so, z1, z2⟩ := s8 s hs
    exact ⟨so, z1, z2.congr (fun j hj => (nU_ne (by omega)).symm)⟩
  · rw [ne 45 (by decide) (by decide)]
    obtain ⟨f, z1, z2⟩ := s9 s hs
    exact ⟨f, z1, z2.congr (fun j hj => (nU_ne (by omega)).symm)⟩
  · rw [ne 46 (by decide) (by decide), s10 s hs]
    exact congrArg nI (orM_congr (fun j hj => by rw [nU_ne (by omega)]))
  · rw [s11 s hs]
    exact tProd_congr (fun j hj => (nU_ne (by omega)).symm)
theorem SC.less (s : SC Z m pg al tw B k a t rs X Y) (hk : k ≠ 0) : SC Z m pg al tw B (k - 1) a t rs X Y := by
  obtain ⟨s1, s2, s3, s4, s5, s6, s7, s8, s9, s10, s11, s12⟩ := s
  exact ⟨s1, s2, s3, s4, s5, fun s hs => s6 s (by omega), fun s hs => s7 s (by omega), fun s hs => s8 s (by omega), fun s hs => s9 s (by omega), fun s hs => s10 s (by omega), fun s hs => s11 s (by omega), s12⟩
theorem s_tryOn (h : Inv Z) (ch : CH Z m pg al tw B) {w n : Nat} (st : St m (dN Z) w k a t rs) (s : SC Z m pg al tw B k a t rs X Y) (n1 : a k ≤ n) (n2 : n ≤ dN Z) (n3 : ∀ i, a k ≤ i → i < n → okS pg al (cl Z 56) tw k a i = false) (n4 : n < dN Z → okS pg al (cl Z 56) tw k a n = true)
    (q1 : 3000 < t + (min (n + 1) (dN Z) - a k) → ∀ U, (∀ q, q ≠ 39 → q ≠ 43 → U q = X q) → U 39 11 = 1 → Q (nI k) U Y)
    (q2 : t + (min (n + 1) (dN Z) - a k) ≤ 3000 → n = dN Z → ∀ U, SC Z m pg al tw B k (nU a k n) (t + (n - a k)) rs U Y → Q (nI k - 1) U Y)
    (q3 : t + (min (n + 1) (dN Z) - a k) ≤ 3000 → n < dN Z → k + 1 < m → ∀ U V, SC Z m pg al tw B (k + 1) (nU (nU a k (n + 1)) (k + 1) 0) (t + (n + 1 - a k)) rs U V → Q (nI (k + 1)) U V)
    (q4 : t + (min (n + 1) (dN Z) - a k) ≤ 3000 → n < dN Z → k + 1 = m → ∀ U V, SC Z m pg al tw B k (nU a k (n + 1)) (t + (n + 1 - a k)) (nU a k (n + 1) :: rs) U V → (∀ s, s < m → U 42 s = nI (nU a k (n + 1) s - 1)) → Q (nI k) U V) : PX5_tryOn (nI k) X Y Q := by
  intro I7 I37 I91 h7 h37 h91
  have hN := i_N h
  have hm := ch.2.1
  obtain ⟨p1, p2, p3, p4, p5, p6, p7⟩ := id st
  obtain ⟨s1, s2, s3, s4, ⟨fn, f1, f2, f3⟩, s6, s7, s8, s9, s10, s11, s12⟩ := id s
  have cX : FR Z X := ch.1.trans (FR.only [39, 40, 41, 42, 43, 44, 45, 46] (by intro q hq; simp at hq; omega) (fun q hq => s1 q (by simp at hq; omega)))
  have e9 : X 3 9 = nI (dN Z) := by rw [cX.lo (by omega), c_n h]; exact hN.2
  obtain ⟨f, g1, g2, g3⟩ := s9 k (Nat.le_refl _)
  have hf := pow_le_1024 hN.1 g2
  unfold BX5_tryOn_s
  refine ⟨vp_in_nI (by omega) (by omega), fun w1 e1 => ?_⟩
  rw [cl_nI (by omega), s6 k (Nat.le_refl _)] at e1
  subst e1
  have found : I37 (nI k) (nI n) X Y := by
    apply h37
    unfold BX5_tryOn_37
    intro w1 e1
    rw [e9, nI_1] at e1
    have e1 : w1 = nI (min (n + 1) (dN Z)) := by
      rw [e1]
      by_cases z : dN Z < n + 1
      · rw [if_pos (by rw [i_lt, le_nI (by omega) (by omega)]; omega), Nat.min_eq_right (by omega)]
      · rw [if_neg (by rw [i_lt, le_nI (by omega) (by omega)]; omega), Nat.min_eq_left (by omega)]
    subst e1
    rw [cl_nI (by omega), s6 k (Nat.le_refl _), s3, pk_sub (by omega), nI_add]
    refine ⟨vp_in_nI (by omega) (by omega), fun X3 e3 => ⟨vp_in_nI (by omega) (by omega), ?_⟩⟩
    subst e3
    have e4 : (sX (sX X 39 9 (nI (t + (min (n + 1) (dN Z) - a k)))) 43 k (nI (min (n + 1) (dN Z)))) 39 9 = nI (t + (min (n + 1) (dN Z) - a k)) := by rw [sX_ne (by decide), sX_eq]; simp [upd]
    rw [e4, show (3000 : Int32) = nI 3000 from rfl, le_nI (by omega) (by omega)]
    refine ⟨fun z => ?_, fun z => ?_⟩
    · apply h91
      unfold BX5_tryOn_91
      have e5 : (sX (sX (sX X 39 9 (nI (t + (min (n + 1) (dN Z) - a k)))) 43 k (nI (min (n + 1) (dN Z)))) 39 11 0) 39 11 = 0 := by rw [sX_eq]; simp [upd]
      have e6 : (sX (sX (sX X 39 9 (nI (t + (min (n + 1) (dN Z) - a k)))) 43 k (nI (min (n + 1) (dN Z)))) 39 11 0) 3 9 = nI (dN Z) := by rw [sX_ne (by decide), sX_ne (by decide), sX_ne (by decide)]; exact e9
      rw [e5, e6]
      refine ⟨⟨rfl, rfl⟩, fun _ => ⟨fun y => ?_, fun y => ?_⟩, fun y => absurd rfl y⟩
      · rw [i_lt, le_nI (by omega) (by omega)] at y
        have hn : n < dN Z := by omega
        have emin : min (n + 1) (dN Z) = n + 1 := by omega
        rw [emin]
        rw [emin] at q3 q4 z
        have sc := s.mv (t' := t + (n + 1 - a k)) (v := n + 1)
        obtain ⟨r1, r2, r3, r4, ⟨fn', f1', f2', f3'⟩, r6, r7, r8, r9, r10, r11, r12⟩ := sc
        have cS : FR Z (sX (sX (sX X 39 9 (nI (t + (n + 1 - a k)))) 43 k (nI (n + 1))) 39 11 0) := ch.1.trans (FR.only [39, 40, 41, 42, 43, 44, 45, 46] (by intro q hq; simp at hq; omega) (fun q hq => r1 q (by simp at hq; omega)))
        refine s_give (a := nU a k (n + 1)) (fn := fn') (P := tProd (Z 55) (nU a k (n + 1)) k) h cS (by omega) hn (by omega) f2' (fun h0 => ⟨?_, ?_⟩) (fun h0 => by rw [h0]; rfl) (fun U V u1 u2 u3 u4 u5 v1 => ?_)
        · have := r10 (k - 1) (by omega)
          rw [show k - 1 + 1 = k by omega] at this
          exact this
        · have := r11 (k - 1) (by omega)
          rw [show k - 1 + 1 = k by omega] at this
          exact this
        · have e31 : U 31 3 = nI m := by rw [u1 31 (by decide) (by decide) (by decide), r1 31 (by omega)]; exact ch.2.2.1
          have g42 : ∀ j, j ≤ k → U 42 j = nI (nU a k (n + 1) j - 1) := by
            intro j hj
            rw [u4]
            unfold upd
            by_cases e : j = k
            · rw [if_pos e, e, nU_eq]
              rfl
            · rw [if_neg e]
              exact r7 j (by omega)
          have g46 : ∀ j, j ≤ k → U 46 j = nI (orM (fun j => 2 ^ (nU a k (n + 1) j - 1)) (j + 1)) := by
            intro j hj
            rw [u5]
            unfold upd
            by_cases e : j = k
            · rw [if_pos e, e]
              show _ = nI (orM _ k ||| 2 ^ (nU a k (n + 1) k - 1))
              rw [nU_eq]
              rfl
            · rw [if_neg e]
              exact r10 j (by omega)
          have g47 : ∀ j, j ≤ k → V 47 j = tProd (Z 55) (nU a k (n + 1)) (j + 1) := by
            intro j hj
            rw [v1, sY_eq]
            unfold vp_updL
            by_cases e : j = k
            · rw [if_pos e, e]
              show _ = tProd (Z 55) (nU a k (n + 1)) k * (Z 55 (nU a k (n + 1) k - 1)).toInt64
              rw [nU_eq]
              rfl
            · rw [if_neg e]
              exact r11 j (by omega)
          have g10 : ∀ j, j < min k fn' → ∃ n, n < dN Z ∧ U 42 j = nI n ∧ (tMay j rs).testBit n = true := by
            intro j hj
            rw [u4]
            unfold upd
            rw [if_neg (by omega)]
            exact f3' j (by omega)
          have fU : ∀ q, q < 39 ∨ 47 ≤ q → U q = B q := fun q hq => by rw [u1 q (by omega) (by omega) (by omega)]; exact r1 q hq
          have tU : Tal Z m rs U V := r12.congr (u1 40 (by decide) (by decide) (by decide)) (u1 41 (by decide) (by decide) (by decide)) (by rw [v1, sY_ne (by decide)])
          rw [e31, nI_1, le_nI (by omega) (by omega)]
          refine ⟨fun x => ?_, fun x => ?_⟩
          · have hkm : k + 1 = m := by omega
            refine s_takeReading (r := nU a k (n + 1)) (fn := min k fn') h hm hkm (by omega) (fun j hj => ?_) tU u3 (fun j hj => g42 j (by omega)) (fun j hj => ?_) (by rw [g46 k (Nat.le_refl _), hkm]; rfl) (by rw [g47 k (Nat.le_refl _), hkm]) (fun W V' w1 w2 w3 w4 w5 w6 w7 => ?_)
            · by_cases e : j = k
              · rw [e, nU_eq]
                omega
              · rw [nU_ne e]
                exact p5 j (by omega)
            · obtain ⟨n', z1, z2, z3⟩ := g10 j hj
              have hj' : 1 ≤ nU a k (n + 1) j ∧ nU a k (n + 1) j ≤ dN Z := by
                rw [nU_ne (by omega)]
                exact p5 j (by omega)
              rw [g42 j (by omega), eq_nI (by omega) (by omega)] at z2
              rw [z2]
              exact z3
            · have w42 : ∀ j, j ≤ k → W 42 j = nI (nU a k (n + 1) j - 1) := fun j hj => by rw [w1 42 (by decide) (by decide) (by decide)]; exact g42 j hj
              refine q4 z hn hkm W V' ⟨fun q hq => by rw [w1 q (by omega) (by omega) (by omega)]; exact fU q hq, ⟨?_, ?_⟩, ?_, ?_, ⟨m, Nat.le_refl _, w3, fun j hj => ?_⟩, fun j hj => ?_, fun j hj => w42 j (by omega), fun j hj => ?_, fun j hj => ?_, fun j hj => ?_, fun j hj => ?_, w7⟩ (fun j hj => w42 j (by omega))
              · rw [w4, u1 40 (by decide) (by decide) (by decide)]
                exact r2.1
              · rw [w5, u1 40 (by decide) (by decide) (by decide)]
                exact r2.2
              · rw [w2 9 (by decide), u2 9 (by decide)]
                exact r3
              · rw [w2 11 (by decide), u2 11 (by decide)]
                exact r4
              · have hj' : 1 ≤ nU a k (n + 1) j ∧ nU a k (n + 1) j ≤ dN Z := st.rd' hn hkm n1 j hj
                refine ⟨nU a k (n + 1) j - 1, by omega, w42 j (by omega), ?_⟩
                show (tMay j rs ||| 2 ^ (nU a k (n + 1) j - 1)).testBit _ = true
                rw [Nat.testBit_or, Nat.testBit_two_pow]
                simp
              · rw [w1 43 (by decide) (by decide) (by decide), u1 43 (by decide) (by decide) (by decide)]
                exact r6 j hj
              · rw [w1 44 (by decide) (by decide) (by decide), u1 44 (by decide) (by decide) (by decide)]
                exact r8 j hj
              · rw [w1 45 (by decide) (by decide) (by decide), u1 45 (by decide) (by decide) (by decide)]
                exact r9 j hj
              · rw [w1 46 (by decide) (by decide) (by decide)]
                exact g46 j (by omega)
              · rw [w6]
                exact g47 j (by omega)
          · refine s_enter (a := nU (nU a k (n + 1)) (k + 1) 0) h ch (show k + 1 < m by omega) fU (fun j hj => ?_) (fun _ => ?_) (fun W w1 w2 w3 w4 => ?_)
            · rw [nU_ne (by omega)]
              refine ⟨g42 j (by omega), ?_⟩
              by_cases e : j = k
              · rw [e, nU_eq]
                omega
              · rw [nU_ne e]
                have := p5 j (by omega)
                omega
            · rw [show k + 1 - 1 = k by omega, u1 44 (by decide) (by decide) (by decide)]
              obtain ⟨so, z1, z2⟩ := r8 k (Nat.le_refl _)
              exact ⟨so, z1, z2.congr (fun j hj => (nU_ne (by omega)).symm)⟩
            · obtain ⟨so, w3, w3'⟩ := w3
              obtain ⟨fr, w4, w4'⟩ := w4
              refine q3 z hn (by omega) W V ⟨fun q hq => by rw [w1 q (by omega) (by omega) (by omega)]; exact fU q hq, ?_, ?_, ?_, ⟨min k fn', by omega, ?_, fun j hj => ?_⟩, fun j hj => ?_, fun j hj => ?_, fun j hj => ?_, fun j hj => ?_, fun j hj => ?_, fun j hj => ?_, tU.congr (w1 40 (by decide) (by decide) (by decide)) (w1 41 (by decide) (by decide) (by decide)) rfl⟩
              · rw [w1 40 (by decide) (by decide) (by decide), u1 40 (by decide) (by decide) (by decide)]
                exact r2
              · rw [w1 39 (by decide) (by decide) (by decide), u2 9 (by decide)]
                exact r3
              · rw [w1 39 (by decide) (by decide) (by decide), u2 11 (by decide)]
                exact r4
              · rw [w1 39 (by decide) (by decide) (by decide)]
                exact u3
              · rw [w1 42 (by decide) (by decide) (by decide)]
                exact g10 j hj
              · rw [w2, u1 43 (by decide) (by decide) (by decide)]
                unfold upd
                by_cases e : j = k + 1
                · rw [if_pos e, e, nU_eq]
                  rfl
                · rw [if_neg e, nU_ne e]
                  exact r6 j (by omega)
              · rw [w1 42 (by decide) (by decide) (by decide), nU_ne (by omega)]
                exact g42 j (by omega)
              · rw [w3, u1 44 (by decide) (by decide) (by decide)]
                unfold upd
                by_cases e : j = k + 1
                · rw [if_pos e, e]
                  exact ⟨so, rfl, w3'⟩
                · rw [if_neg e]
                  obtain ⟨so', z1, z2⟩ := r8 j (by omega)
                  exact ⟨so', z1, z2.congr (fun i hi => (nU_ne (by omega)).symm)⟩
              · rw [w4, u1 45 (by decide) (by decide) (by decide)]
                unfold upd
                by_cases e : j = k + 1
                · rw [if_pos e, e]
                  exact ⟨fr, rfl, w4'⟩
                · rw [if_neg e]
                  obtain ⟨f', z1, z2⟩ := r9 j (by omega)
                  exact ⟨f', z1, z2.congr (fun i hi => (nU_ne (by omega)).symm)⟩
              · rw [w1 46 (by decide) (by decide) (by decide), g46 j (by omega)]
                exact congrArg nI (orM_congr (fun i hi => by rw [nU_ne (a := nU a k (n + 1)) (k := k + 1) (show i ≠ k + 1 by omega)]))
              · rw [g47 j (by omega)]
                exact tProd_congr (fun i hi => (nU_ne (by omega)).symm)
      · rw [i_lt, le_nI (by omega) (by omega)] at y
        have hn : n = dN Z := by omega
        have emin : min (n + 1) (dN Z) = n := by omega
        rw [emin]
        rw [emin] at z
        exact q2 (by rw [emin]; exact z) hn _ s.mv
    · apply h91
      unfold BX5_tryOn_91
      have e5 : (sX (sX (sX X 39 9 (nI (t + (min (n + 1) (dN Z) - a k)))) 43 k (nI (min (n + 1) (dN Z)))) 39 11 1) 39 11 = 1 := by rw [sX_eq]; simp [upd]
      rw [e5]
      refine ⟨⟨rfl, rfl⟩, fun y => absurd y (by decide), fun _ => q1 (by omega) _ (fun q h1 h2 => by rw [sX_ne h1, sX_ne h2, sX_ne h1]) e5⟩
  refine dn (n := n) (P := fun i => a k ≤ i → I7 (nI k) (nI i) X Y) ?_ ?_ (a k) n1 (Nat.le_refl _)
  · intro _
    apply h7
    unfold BX5_tryOn_7
    rw [e9, le_nI (by omega) (by omega), cl_nI (by omega), g1, eq_has]
    simp only [bI_0, Classical.not_not]
    rw [bx_bit0 (by omega) (by omega)]
    refine ⟨fun _ => found, fun y => ⟨vp_in_nI (by omega) (by omega), fun _ => found, fun x => ?_⟩⟩
    rw [g3, n4 (by omega)] at x
    cases x
  · intro i hi ih hai
    apply h7
    unfold BX5_tryOn_7
    rw [e9, le_nI (by omega) (by omega), cl_nI (by omega), g1, eq_has]
    simp only [bI_0, Classical.not_not]
    rw [bx_bit0 (by omega) (by omega)]
    refine ⟨fun y => absurd y (by omega), fun y => ⟨vp_in_nI (by omega) (by omega), fun x => ?_, fun x w hw => ?_⟩⟩
    · exact absurd (by rw [g3]; exact n3 i hai hi) x
    · rw [hw, nI_1]
      exact ih (by omega)
end GO
