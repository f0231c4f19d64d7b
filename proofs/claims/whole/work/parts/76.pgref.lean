/-! page: the reference's loop over the places, and its reading from the start -/
def RR (Z1 : XT) (t B : Nat) (R : (Nat × Int32) × Nat × Nat × (Nat → Int32) × (Nat → Int32) × (Nat → Int32)) (U : XT) : Prop :=
  (∃ i, RP Z1 t i R.1 U) ∧ (R.1.1 = 0 → RA R.2.1 R.2.2.1 B R.2.2.2.1 R.2.2.2.2.1 R.2.2.2.2.2 U)
theorem chr_ge {b : Nat → Int32} {t j : Nat} (hb : ∀ j, ∃ c, c < 256 ∧ b j = nI c) : (0 ≤ chr b t j) = (j < t) := by
  unfold chr
  by_cases h : j < t
  · rw [if_pos h]
    obtain ⟨c, hc, e⟩ := hb j
    rw [e]
    exact propext ⟨fun _ => h, fun _ => nI_pos' (by omega)⟩
  · rw [if_neg h]
    exact propext ⟨fun y => absurd y (by decide), fun y => absurd y h⟩
section RLOOP
variable {Z Z1 X : XT} {Y : YT} {Q : Int32 → XT → YT → Prop} {QV : XT → YT → Prop} {t N B : Nat}
variable {I111 : Int32 → XT → YT → Prop} {I138 : Int32 → Int32 → Int32 → XT → YT → Prop} {I220 : Int32 → Int32 → XT → YT → Prop} {I211 : Int32 → Int32 → Int32 → XT → YT → Prop} {I167 : Int32 → Int32 → XT → YT → Prop} {I168 : Int32 → Int32 → Int32 → XT → YT → Prop} {I263 : Int32 → XT → YT → Prop} {I359 : Int32 → Int32 → Int32 → XT → YT → Prop}
theorem r_loop (z : TR Z Z1 t) (hN : N ≤ 10) (hn : Z1 48 1 = nI N) (hs : ∀ j, ∃ v, v ≤ 12 ∧ Z 6 j = nI v) (e50 : Z1 50 = Z 5) (e51 : Z1 51 = Z 6) (eB : Z1 48 22 = nI B) {a2 a3 : Int32}
    (h138 : ∀ a2 a3 a4 X Y, BX10_page_138 I111 I138 I220 I211 I167 I168 I263 I359 Q a2 a3 a4 X Y → I138 a2 a3 a4 X Y)
    (h211 : ∀ a2 a3 t0 X Y, BX10_page_211 I111 I138 I220 I211 I167 I168 I263 I359 Q a2 a3 t0 X Y → I211 a2 a3 t0 X Y)
    (h167 : ∀ a2 a3 X Y, BX10_page_167 I111 I138 I220 I211 I167 I168 I263 I359 Q a2 a3 X Y → I167 a2 a3 X Y)
    (h168 : ∀ a2 a3 t0 X Y, BX10_page_168 I111 I138 I220 I211 I167 I168 I263 I359 Q a2 a3 t0 X Y → I168 a2 a3 t0 X Y) :
    ∀ d i k nb oc sh wd X, d + k = 5 → k ≤ 4 → nb ≤ 10 → RP Z1 t i (0, -1) X → RA k nb B oc sh wd X → (∀ U, RR Z1 t B (lp Z t N d i k nb oc sh wd) U → I220 a2 a3 U Y) → I138 a2 a3 1 X Y := by
  intro d
  induction d with
  | zero => intro i k nb oc sh wd X h1 h2; omega
  | succ d ih =>
    intro i k nb oc sh wd X h1 h2 hnb c da hq
    have ht := z.1
    have stop : ∀ U i', (∀ p, ∀ W : XT, RP Z1 t i' p W → G3 U W → I138 a2 a3 0 W Y) → (∃ p, RP Z1 t i' p U) → I167 a2 a3 U Y := by
      intro U i' hw ⟨p, cu⟩
      apply h167
      unfold BX10_page_167
      apply h168
      unfold BX10_page_168
      rw [eq_one, bI_f (by decide), Int32.add_zero, cu.2.2.1]
      exact hw p _ (cu.at_ cu.2.2.2.1) G1.at_.g3
    apply h138
    unfold BX10_page_138
    refine ⟨fun y => absurd y (by decide), fun _ => ?_⟩
    refine r_place z hN hn hs e50 e51 eB h2 hnb c da (fun U i' cu hu => ?_)
    unfold lp at hq
    rw [cu.ft]
    refine ⟨fun g => ?_, fun g => ?_⟩
    · rw [if_neg g] at hq
      have cu' := cu
      apply h167
      unfold BX10_page_167
      apply h168
      unfold BX10_page_168
      rw [eq_one, bI_f (by decide), Int32.add_zero, cu.2.2.1]
      have cw := cu.at_ cu.2.2.2.1
      apply h138
      unfold BX10_page_138
      rw [cw.ft]
      exact ⟨fun _ => ⟨fun _ => hq _ ⟨⟨_, cw⟩, fun y => absurd y g⟩, fun y => absurd y g⟩, fun y => absurd rfl y⟩
    · rw [if_pos g] at hq
      obtain ⟨e1, hk, du⟩ := hu g
      have e0 : plF Z t N i k nb sh = (0, -1) := (plF_ok hnb g).1
      rw [e0, e1] at cu
      have hle := cu.2.2.2.1
      have hsk := sk_le (b := Z 2) hle
      refine r_here z cu (fun W cw fw => ?_)
      have dw := du.g3 fw.g3
      refine ⟨fun g4 => ?_, fun g4 => ?_⟩
      · apply h167
        unfold BX10_page_167
        apply h168
        unfold BX10_page_168
        rw [eq_one, bI_f (by decide), Int32.add_zero, cw.2.2.1]
        have c2 := cw.at_ cw.2.2.2.1
        have d2 := dw.g3 (G1.at_ (v := nI (sk (Z 2) t (plE Z t i)))).g3
        apply h138
        unfold BX10_page_138
        refine ⟨fun _ => ⟨fun y => absurd c2.2.2.2.2.1 y, fun _ => ?_⟩, fun y => absurd rfl y⟩
        refine r_here z c2 (fun V cv fv => ?_)
        rw [sk_sk hle] at cv ⊢
        have d3 := d2.g3 fv.g3
        rw [chr_ge z.2.2.1]
        refine ⟨fun y => ?_, fun y => ?_⟩
        · have n44 : ¬ Z 2 (sk (Z 2) t (plE Z t i)) = 44 := fun q => g4 (by unfold chr; rw [if_pos y]; exact q)
          rw [if_pos y, if_neg n44] at hq
          apply h211
          unfold BX10_page_211
          rw [cv.2.2.1]
          exact r_want (k := 1) cv (TV.f (p := False) (fun y => y)) (by omega) (fun y => absurd y (fun y => y)) (fun _ S cs fs => hq S ⟨⟨_, cs⟩, fun y => absurd (show (1 : Nat) = 0 from y) (by omega)⟩)
        · rw [if_neg y] at hq
          apply h211
          unfold BX10_page_211
          rw [cv.2.2.1]
          exact r_want (k := 1) cv (TV.t (p := True) trivial) (by omega) (fun _ => hq V ⟨⟨_, cv⟩, fun _ => d3⟩) (fun y => absurd trivial y)
      · have hlt : sk (Z 2) t (plE Z t i) < t := by
          rcases Nat.lt_or_ge (sk (Z 2) t (plE Z t i)) t with y | y
          · exact y
          · unfold chr at g4
            rw [if_neg (by omega)] at g4
            exact absurd g4 (by decide)
        have y44 : Z 2 (sk (Z 2) t (plE Z t i)) = 44 := by
          unfold chr at g4
          rw [if_pos hlt] at g4
          exact g4
        rw [if_pos hlt, if_pos y44] at hq
        apply h168
        unfold BX10_page_168
        rw [eq_one, bI_t (by decide), cw.2.2.1, nI_1]
        exact ih _ _ _ _ _ _ _ (by omega) (by omega) (plB_le hnb g) (cw.at_ (by omega)) (dw.g3 G1.at_.g3) hq
theorem r_parse (z : TR Z Z1 t) (hN : N ≤ 10) (hn : Z1 48 1 = nI N) (hs : ∀ j, ∃ v, v ≤ 12 ∧ Z 6 j = nI v) (e50 : Z1 50 = Z 5) (e51 : Z1 51 = Z 6) (hB : B ≤ 10) (eB : Z1 48 22 = nI B) (hP : ¬ Z1 48 13 = 8)
    (h111 : ∀ a2 X Y, BX10_page_111 I111 I138 I220 I211 I167 I168 I263 I359 Q a2 X Y → I111 a2 X Y)
    (h138 : ∀ a2 a3 a4 X Y, BX10_page_138 I111 I138 I220 I211 I167 I168 I263 I359 Q a2 a3 a4 X Y → I138 a2 a3 a4 X Y)
    (h211 : ∀ a2 a3 t0 X Y, BX10_page_211 I111 I138 I220 I211 I167 I168 I263 I359 Q a2 a3 t0 X Y → I211 a2 a3 t0 X Y)
    (h167 : ∀ a2 a3 X Y, BX10_page_167 I111 I138 I220 I211 I167 I168 I263 I359 Q a2 a3 X Y → I167 a2 a3 X Y)
    (h168 : ∀ a2 a3 t0 X Y, BX10_page_168 I111 I138 I220 I211 I167 I168 I263 I359 Q a2 a3 t0 X Y → I168 a2 a3 t0 X Y)
    (hq : ∀ a2 a3 U, RR Z1 t B (pgR Z t N B) U → ((pgR Z t N B).1.1 = 0 → a2 = nI (nV (Z 2) t (hd1 (Z 2) t)) ∧ a3 = nI (nV (Z 2) t (hd3 (Z 2) t))) → I220 a2 a3 U Y) : BX10_page_s I111 I138 I220 I211 I167 I168 I263 I359 Q Z1 Y := by
  have ht := z.1
  -- behind a fault
  have fault : ∀ a2 U i' p, RP Z1 t i' p U → ¬ p.1 = 0 → hdP (Z 2) t = p → I111 a2 U Y := by
    intro a2 U i' p c hp e
    have er : pgR Z t N B = _ := if_neg (show ¬ (hdP (Z 2) t).1 = 0 by rw [e]; exact hp)
    have hu : ∀ a3, I220 a2 a3 U Y := fun a3 => hq a2 a3 U (by rw [er, e]; exact ⟨⟨_, c⟩, fun y => absurd y hp⟩) (fun y => absurd y (by rw [er, e]; exact hp))
    apply h111
    unfold BX10_page_111
    refine r_num_st c hp (r_sign_st c hp ?_)
    rw [c.ft]
    refine ⟨fun _ => ?_, fun y => absurd y hp⟩
    apply h138
    unfold BX10_page_138
    rw [c.ft]
    exact ⟨fun _ => ⟨fun _ => hu _, fun y => absurd y hp⟩, fun y => absurd rfl y⟩
  unfold BX10_page_s
  refine ⟨fun _ X2 e2 => ?_, fun y => absurd y hP⟩
  have c0 : RP Z1 t 0 (0, -1) (sX (sX X2 48 32 0) 48 33 0) := by
    rw [e2]
    exact ⟨fun q a _ _ _ => by rw [sX_ne a, sX_ne a, sX_ne a, sX_ne a, sX_ne a], fun j hj => by rw [sX_eq, pk_un (by omega), sX_eq, pk_un (by omega), sX_eq, pk_un (by omega), sX_eq, pk_un (by omega), sX_eq, pk_un (by omega)], rfl, by omega, rfl, rfl, by show 0 < 6; omega⟩
  have a0 : RA 0 B B z0 z0 z0 (sX (sX X2 48 32 0) 48 33 0) := by
    rw [e2]
    refine ⟨rfl, ?_, by omega, fun k' hk' => absurd hk' (by omega)⟩
    rw [Nat.sub_self]
    rfl
  refine r_word z c0 (fun U1 c1 f1 e28 e29 => ?_)
  refine r_isWord (n := 0) z c1 (by omega) e28 e29 (by omega) (by decide) (fun r8 tv8 => ?_)
  rw [e28]
  refine r_want (k := 1) c1 (tv8.mp wF_tv.symm) (by omega) (fun g1 => ?good1) (fun g1 U2 c2 f2 => ?flt1)
  case flt1 =>
    have e : hdP (Z 2) t = (1, nI (sk (Z 2) t 0)) := by
      unfold hdP
      have h1 : flF (0, -1) (wF (Z 2) t 0 0) = (1, nI (sk (Z 2) t 0)) := by
        rw [wF_1 (fun y => g1 (wF_tv.mpr y)), flF_yes (by omega), fl_0]
      have n1 : ¬ ((1, nI (sk (Z 2) t 0)) : Nat × Int32).1 = 0 := by show ¬ 1 = 0; omega
      rw [h1, flF_st n1, flF_st n1, flF_st n1, flF_st n1]
    have n1 : ¬ ((1, nI (sk (Z 2) t 0)) : Nat × Int32).1 = 0 := by show ¬ 1 = 0; omega
    refine r_num_st c2 n1 ?_
    rw [c2.ft]
    exact ⟨fun _ => fault _ _ _ _ c2 n1 e, fun y => absurd y n1⟩
  refine r_num (lo := 0) (hi := 99) z c1 (by omega) (by omega) (fun r16 U3 i3 c3 f3 hr16 => ?_)
  rw [c3.ft]
  refine ⟨fun g2 => fault _ _ _ _ c3 g2 ?_, fun g2 => ?_⟩
  · unfold hdP
    rw [flF_0 g1]
    have g2' : ¬ (flF (0, -1) (nF (Z 2) t 0 99 (hd1 (Z 2) t))).1 = 0 := g2
    rw [flF_st g2', flF_st g2', flF_st g2']
    rfl
  have g2 : (nF (Z 2) t 0 99 (hd1 (Z 2) t)).1 = 0 := (flF_z.mp g2).2
  obtain ⟨er16, ei3⟩ := hr16 g2
  have c3 : RP Z1 t (hd2 (Z 2) t) (0, -1) U3 := by
    have c3 : RP Z1 t i3 (flF (0, -1) (nF (Z 2) t 0 99 (hd1 (Z 2) t))) U3 := c3
    rw [flF_0 g2, ei3] at c3
    exact c3
  have hh2 : hd2 (Z 2) t ≤ t := c3.2.2.2.1
  refine r_word z c3 (fun U4 c4 f4 e28 e29 => ?_)
  refine r_isWord (n := 1) z c4 hh2 e28 e29 (by omega) (by decide) (fun r25 tv25 => ?_)
  rw [e28]
  refine r_want (k := 1) c4 (tv25.mp wF_tv.symm) (by omega) (fun g3 => ?good2) (fun g3 U5 c5 f5 => ?flt2)
  case flt2 =>
    have n1 : ¬ ((1, nI (sk (Z 2) t (hd2 (Z 2) t))) : Nat × Int32).1 = 0 := by show ¬ 1 = 0; omega
    refine fault _ _ _ _ c5 n1 ?_
    unfold hdP
    have h1 : flF (0, -1) (wF (Z 2) t 1 (hd2 (Z 2) t)) = (1, nI (sk (Z 2) t (hd2 (Z 2) t))) := by
      rw [wF_1 (fun y => g3 (wF_tv.mpr y)), flF_yes (by omega), fl_0]
    rw [flF_0 g1, flF_0 g2, h1, flF_st n1, flF_st n1]
  apply h111
  unfold BX10_page_111
  have c4 : RP Z1 t (hd3 (Z 2) t) (0, -1) U4 := c4
  refine r_num (lo := 0) (hi := 1) z c4 (by omega) (by omega) (fun r U6 i6 c6 f6 hr => ?_)
  by_cases g4 : (nF (Z 2) t 0 1 (hd3 (Z 2) t)).1 = 0
  · obtain ⟨er, ei6⟩ := hr g4
    have c6 : RP Z1 t (hd4 (Z 2) t) (0, -1) U6 := by
      rw [flF_0 g4, ei6] at c6
      exact c6
    refine r_sign z c6 (by decide) (fun U7 c7 f7 => ?_)
    have eh : hdP (Z 2) t = flF (0, -1) (sF (Z 2) t 58 (hd4 (Z 2) t)) := by
      unfold hdP
      rw [flF_0 g1, flF_0 g2, flF_0 g3, flF_0 g4]
    rw [← eh] at c7
    rw [c7.ft]
    refine ⟨fun g5 => ?_, fun g5 => ?_⟩
    · have er : pgR Z t N B = _ := if_neg g5
      have hu : I220 r16 r U7 Y := hq _ _ U7 (by rw [er]; exact ⟨⟨_, c7⟩, fun y => absurd y g5⟩) (fun y => absurd y (by rw [er]; exact g5))
      apply h138
      unfold BX10_page_138
      rw [c7.ft]
      exact ⟨fun _ => ⟨fun _ => hu, fun y => absurd y g5⟩, fun y => absurd rfl y⟩
    · have er' : pgR Z t N B = _ := if_pos g5
      rw [(hdP_0 g5).1] at c7
      refine r_loop z hN hn hs e50 e51 eB h138 h211 h167 h168 5 _ 0 B z0 z0 z0 U7 rfl (by omega) hB c7 (((((a0.g3 f1).g3 f3).g3 f4).g3 f6).g3 f7) (fun U cr => hq _ _ U (by rw [er']; exact cr) (fun _ => ⟨er16, er⟩))
  · have c6 : RP Z1 t i6 (flF (0, -1) (nF (Z 2) t 0 1 (hd3 (Z 2) t))) U6 := c6
    have n1 : ¬ (flF (0, -1) (nF (Z 2) t 0 1 (hd3 (Z 2) t))).1 = 0 := by
      rw [flF_1 g4]
      exact g4
    have eh : hdP (Z 2) t = flF (0, -1) (nF (Z 2) t 0 1 (hd3 (Z 2) t)) := by
      unfold hdP
      rw [flF_0 g1, flF_0 g2, flF_0 g3, flF_st n1]
    rw [← eh] at c6 n1
    have er : pgR Z t N B = _ := if_neg n1
    refine r_sign_st c6 n1 ?_
    have hu : I220 r16 r U6 Y := hq _ _ U6 (by rw [er]; exact ⟨⟨_, c6⟩, fun y => absurd y n1⟩) (fun y => absurd y (by rw [er]; exact n1))
    rw [c6.ft]
    refine ⟨fun _ => ?_, fun y => absurd y n1⟩
    apply h138
    unfold BX10_page_138
    rw [c6.ft]
    exact ⟨fun _ => ⟨fun _ => hu, fun y => absurd y n1⟩, fun y => absurd rfl y⟩
end RLOOP
