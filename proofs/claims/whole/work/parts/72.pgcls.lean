/-! page: the class's place and its loop -/
theorem upd_k {f : Nat → Int32} {k k' : Nat} {v : Int32} (h : k' < k) : upd f k v k' = f k' := pk_un (by omega)
section CPLACE2
variable {Z X : XT} {Y : YT} {Q : Int32 → XT → YT → Prop} {QV : XT → YT → Prop} {t i N : Nat} {p : Nat × Int32}
theorem s_place (z : TZ Z t) (hN : N ≤ 10) (hn : Z 3 9 = nI N) (hs : ∀ j, ∃ v, v ≤ 12 ∧ Z 6 j = nI v) {k nb : Nat} {oc sh wd : Nat → Int32} {dd ff : Int32} (hk4 : k ≤ 4) (hnb : nb ≤ 10) (c : CP Z t i (0, -1) X) (d : DA k nb oc sh wd dd ff X)
    (hq : ∀ U i', CP Z t i' (plF Z t N i k nb sh) U → ((plF Z t N i k nb sh).1 = 0 → i' = plE Z t i ∧ k < 4 ∧ DA (k + 1) (plB Z t i nb) (upd oc k (nI (plO Z t i))) (upd sh k (plS Z t N i)) (upd wd k (plW Z t i)) dd ff U) → QV U Y) : PX2_takePlace (nI k) X Y QV := by
  intro I26 h26
  have ht := z.1
  have hit := c.2.2.1
  have hsk := sk_le (b := Z 2) hit
  have go : ∀ U, CP Z t (wE (Z 2) t i) (flF (flF (0, -1) (wF (Z 2) t 2 i)) (if k < 4 then (0, 0) else (4, sk (Z 2) t i))) U → F3 X U → I26 (nI k) U Y := by
    intro U c2 f2
    apply h26
    unfold BX2_takePlace_26
    refine s_num (lo := 0) (hi := 3) z c2 (by omega) (by omega) (fun U3 c3 f3 => ?_)
    refine s_skip z c3 (fun U4 c4 f4 => ?_)
    have f := ((f2.trans f3).trans f4)
    have c4 : CP Z t (pj (Z 2) t i) (plQ (Z 2) t i k) U4 := c4
    have d4 := d.f3 f
    have hpj : pj (Z 2) t i ≤ t := c4.2.2.1
    have e0 : (nI (plQ (Z 2) t i k).1 = 0) = ((plQ (Z 2) t i k).1 = 0) := eq_nI (b := 0) (by have := c4.2.2.2.2.2; omega) (by omega)
    rw [c4.2.2.2.1, e0]
    refine ⟨fun g => ?_, fun g => ?_⟩
    · have ep : plF Z t N i k nb sh = plQ (Z 2) t i k := if_neg g
      exact hq U4 _ (by rw [ep]; exact c4) (fun g2 => absurd g2 (by rw [ep]; exact g))
    obtain ⟨q0, hk, qw, qn⟩ := plQ_0 g
    rw [q0] at c4
    rw [i_lt, show (4 : Int32) = nI 4 from rfl, le_nI (by omega) (by omega)]
    refine ⟨fun _ => ⟨vp_in_nI hk (by omega), fun X11 e11 => ?_⟩, fun g => absurd hk (by omega)⟩
    rw [cl_nI (by omega), nI_1] at e11
    have c5 : CP Z t (pj (Z 2) t i) (0, -1) X11 := by
      rw [e11]
      exact c4.oth (fun q a b _ _ => by rw [sX_ne a, sX_ne b]) (by rw [sX_eq, pk_un (by decide), sX_ne (by decide)]) (by rw [sX_eq, pk_un (by decide), sX_ne (by decide)]) (by rw [sX_eq, pk_un (by decide), sX_ne (by decide)])
    obtain ⟨d8, d9, d10, d11, ⟨m, hm, d12, hmb⟩, dA⟩ := d4
    have x24 : ∀ f, f ≠ 10 → X11 24 f = U4 24 f := fun f hf => by rw [e11, sX_eq, pk_un hf, sX_ne (by decide)]
    have x10 : X11 24 10 = nI (k + 1) := by rw [e11, sX_eq, pk_us]
    have x25 : X11 25 = upd (U4 25) k (nI (plO Z t i)) := by rw [e11, sX_ne (by decide), sX_eq]; rfl
    have x26 : X11 26 = U4 26 := by rw [e11, sX_ne (by decide), sX_ne (by decide)]
    have x27 : X11 27 = U4 27 := by rw [e11, sX_ne (by decide), sX_ne (by decide)]
    have e12 : X11 24 12 = nI m := by rw [x24 12 (by decide)]; exact d12
    rw [c5.2.1, eq_isLetter (t := t) (by omega) ht (c5.t1 z), c5.1 2 (by decide) (by decide) (by decide) (by decide)]
    simp only [bI_0]
    by_cases hL : pj (Z 2) t i < t ∧ isLb (Z 2 (pj (Z 2) t i)) = true
    · refine ⟨fun g => absurd hL g, fun _ => ?_⟩
      have no91 : ¬ chr (Z 2) t (pj (Z 2) t i) = 91 := by
        unfold chr
        rw [if_pos hL.1]
        exact n91 hL.2
      have ep : plF Z t N i k nb sh = if nmA Z t N (pj (Z 2) t i) = -1 ∨ tkn sh (nmA Z t N (pj (Z 2) t i)) k = true then (3, nI (pj (Z 2) t i)) else (0, -1) := by
        unfold plF
        rw [if_pos g, if_neg no91, if_pos hL]
      refine s_shown z hN hn hs c5 hL.1 hk hm e12 (fun U c6 g6 => ?_) (fun n hnN en hb => ?_)
      · have e3 : plF Z t N i k nb sh = (3, nI (pj (Z 2) t i)) := by
          rw [ep, if_pos]
          rcases g6 with g6 | ⟨n, h1, h2, h3⟩
          · exact Or.inl g6
          · refine Or.inr (tkn_iff.mpr ?_)
            rw [h2]
            exact (hmb n h1).mp h3
        exact hq U _ (by rw [e3]; exact c6) (fun g7 => absurd g7 (by rw [e3]; show ¬ 3 = 0; omega))
      · have hno : ¬ ∃ k', k' < k ∧ sh k' = nI n := fun y => by
          have := (hmb n (by omega)).mpr y
          rw [hb] at this
          cases this
        have e3 : plF Z t N i k nb sh = (0, -1) := by
          rw [ep, if_neg]
          rw [en]
          rintro (y | y)
          · exact absurd y (nI_ne1 (by omega))
          · exact hno (tkn_iff.mp y)
        have eE : plE Z t i = eow (Z 2) (t - pj (Z 2) t i) (pj (Z 2) t i) := if_neg no91
        have eS : plS Z t N i = nI n := (if_neg no91).trans en
        have eW : plW Z t i = 0 := if_neg no91
        have eB : plB Z t i nb = nb := if_neg no91
        have hle := eow_le (Z 2) (t - pj (Z 2) t i) (pj (Z 2) t i)
        have c6 : CP Z t (pj (Z 2) t i) (0, -1) (sX (sX (sX X11 24 12 (nI (m ||| 2 ^ n))) 26 k (nI n)) 27 k 0) :=
          c5.oth (fun q a _ b e => by rw [sX_ne e, sX_ne b, sX_ne a]) (by rw [sX_ne (by decide), sX_ne (by decide), sX_eq, pk_un (by decide)]) (by rw [sX_ne (by decide), sX_ne (by decide), sX_eq, pk_un (by decide)]) (by rw [sX_ne (by decide), sX_ne (by decide), sX_eq, pk_un (by decide)])
        have c7 := c6.to (j := eow (Z 2) (t - pj (Z 2) t i) (pj (Z 2) t i)) (by omega)
        refine hq _ _ (by rw [e3]; exact c7) (fun _ => ⟨eE.symm, hk, ?_⟩)
        rw [eB, eS, eW]
        have y24 : ∀ f, f ≠ 5 → f ≠ 12 → sX (sX (sX (sX X11 24 12 (nI (m ||| 2 ^ n))) 26 k (nI n)) 27 k 0) 24 5 (nI (eow (Z 2) (t - pj (Z 2) t i) (pj (Z 2) t i))) 24 f = X11 24 f := fun f a b => by
          rw [sX_eq, pk_un a, sX_ne (by decide), sX_ne (by decide), sX_eq, pk_un b]
        refine ⟨?_, ?_, ?_, ?_, ⟨m ||| 2 ^ n, Nat.or_lt_two_pow (n := 10) hm (Nat.pow_lt_pow_right (by decide) (by omega)), ?_, fun n' hn' => ?_⟩, fun k' hk' => ?_⟩
        · rw [y24 8 (by decide) (by decide), x24 8 (by decide)]; exact d8
        · rw [y24 9 (by decide) (by decide), x24 9 (by decide)]; exact d9
        · rw [y24 10 (by decide) (by decide)]; exact x10
        · rw [y24 11 (by decide) (by decide), x24 11 (by decide)]; exact d11
        · rw [sX_eq, pk_un (by decide), sX_ne (by decide), sX_ne (by decide), sX_eq, pk_us]
        · rw [Nat.testBit_or, Bool.or_eq_true, hmb n' hn', Nat.testBit_two_pow, decide_eq_true_iff]
          constructor
          · rintro (⟨k', h1, h2⟩ | h)
            · exact ⟨k', by omega, by rw [upd_k h1]; exact h2⟩
            · exact ⟨k, by omega, by rw [pk_us, h]⟩
          · rintro ⟨k', h1, h2⟩
            by_cases e : k' = k
            · rw [e, pk_us, eq_nI (by omega) (by omega)] at h2
              exact Or.inr h2
            · rw [pk_un e] at h2
              exact Or.inl ⟨k', by omega, h2⟩
        · rw [sX_ne (by decide), sX_ne (by decide), sX_ne (by decide), sX_ne (by decide), x25, sX_ne (by decide), sX_ne (by decide), sX_eq, sX_ne (by decide), x26, sX_ne (by decide), sX_eq, sX_ne (by decide), sX_ne (by decide), x27]
          by_cases e : k' = k
          · rw [e, pk_us, pk_us, pk_us, pk_us, pk_us, pk_us]
            exact ⟨rfl, rfl, rfl⟩
          · rw [pk_un e, pk_un e, pk_un e, pk_un e, pk_un e, pk_un e]
            exact dA k' (by omega)
    · refine ⟨fun _ => ?_, fun g => absurd hL g⟩
      rw [c5.2.1, eq_chr z c5 (by omega)]
      by_cases h91 : chr (Z 2) t (pj (Z 2) t i) = 91
      · refine ⟨fun y => absurd h91 y, fun _ => ?_⟩
        have hlt : pj (Z 2) t i < t := by
          rcases Nat.lt_or_ge (pj (Z 2) t i) t with y | y
          · exact y
          · unfold chr at h91
            rw [if_neg (by omega)] at h91
            exact absurd h91 (by decide)
        have ep : plF Z t N i k nb sh = if 10 ≤ nb then (5, nI (pj (Z 2) t i)) else bjF (Z 2) t (pj (Z 2) t i) := by
          unfold plF
          rw [if_pos g, if_pos h91]
        have e11' : X11 24 11 = nI nb := by rw [x24 11 (by decide)]; exact d11
        refine s_bar z c5 hlt hk hnb e11' (fun y U c6 => ?_) (fun y U c6 u11 u24 u25 u26 u27 => ?_)
        · have e3 : plF Z t N i k nb sh = (5, nI (pj (Z 2) t i)) := by rw [ep, if_pos y]
          exact hq U _ (by rw [e3]; exact c6) (fun g7 => absurd g7 (by rw [e3]; show ¬ 5 = 0; omega))
        · have e3 : plF Z t N i k nb sh = bjF (Z 2) t (pj (Z 2) t i) := by rw [ep, if_neg (by omega)]
          have eE : plE Z t i = sE (Z 2) t 93 (nE (Z 2) t (pj (Z 2) t i + 1)) := if_pos h91
          have eS : plS Z t N i = -1 := if_pos h91
          have eW : plW Z t i = nI (nV (Z 2) t (pj (Z 2) t i + 1)) := if_pos h91
          have eB : plB Z t i nb = nb + 1 := if_pos h91
          refine hq U _ (by rw [e3]; exact c6) (fun _ => ⟨eE.symm, hk, ?_⟩)
          rw [eB, eS, eW]
          refine ⟨?_, ?_, ?_, u11, ⟨m, hm, ?_, fun n' hn' => ?_⟩, fun k' hk' => ?_⟩
          · rw [u24 8 (by decide) (by decide) (by decide) (by decide), x24 8 (by decide)]; exact d8
          · rw [u24 9 (by decide) (by decide) (by decide) (by decide), x24 9 (by decide)]; exact d9
          · rw [u24 10 (by decide) (by decide) (by decide) (by decide)]; exact x10
          · rw [u24 12 (by decide) (by decide) (by decide) (by decide)]; exact e12
          · rw [hmb n' hn']
            constructor
            · rintro ⟨k', h1, h2⟩
              exact ⟨k', by omega, by rw [upd_k h1]; exact h2⟩
            · rintro ⟨k', h1, h2⟩
              by_cases e : k' = k
              · rw [e, pk_us] at h2
                exact absurd h2.symm (nI_ne1 (by omega))
              · rw [pk_un e] at h2
                exact ⟨k', by omega, h2⟩
          · rw [u25, u26, u27, x25, x26, x27]
            by_cases e : k' = k
            · rw [e, pk_us, pk_us, pk_us, pk_us, pk_us, pk_us]
              exact ⟨rfl, rfl, rfl⟩
            · rw [pk_un e, pk_un e, pk_un e, pk_un e, pk_un e, pk_un e]
              exact dA k' (by omega)
      · refine ⟨fun _ => ?_, fun y => absurd y h91⟩
        have e3 : plF Z t N i k nb sh = (1, nI (pj (Z 2) t i)) := by
          unfold plF
          rw [if_pos g, if_neg h91, if_neg hL]
        rw [c5.2.1]
        refine s_fail (k := 1) c5 (by omega) (fun W c' f' => ?_)
        rw [fl_0] at c'
        exact hq W _ (by rw [e3]; exact c') (fun g7 => absurd g7 (by rw [e3]; show ¬ 1 = 0; omega))
  unfold BX2_takePlace_s
  refine s_skip z c (fun U c1 f1 w5 hw5 => ?_)
  rw [hw5, c1.2.1]
  refine s_word z c1 (n := 2) (by omega) (fun U2 c2 f2 => ?_)
  rw [wE_sk hit, wF_sk hit] at c2
  rw [i_lt, show (4 : Int32) = nI 4 from rfl, le_nI (by omega) (by omega)]
  refine ⟨fun g => go U2 ?_ (f1.trans f2), fun g => ?_⟩
  · rw [if_pos (by omega), flF_no]
    exact c2
  · refine s_fail (k := 4) c2 (by omega) (fun W c' f' => go W ?_ ((f1.trans f2).trans f'))
    rw [if_neg (by omega), flF_yes (by omega)]
    exact c'
end CPLACE2
/-- the places of a page, one after the other: fault, how many, bars, offices, names, widths -/
def lp (Z : XT) (t N : Nat) : Nat → Nat → Nat → Nat → (Nat → Int32) → (Nat → Int32) → (Nat → Int32) → (Nat × Int32) × Nat × Nat × (Nat → Int32) × (Nat → Int32) × (Nat → Int32)
  | 0, _, k, nb, oc, sh, wd => ((1, -1), k, nb, oc, sh, wd)
  | d + 1, i, k, nb, oc, sh, wd =>
    if (plF Z t N i k nb sh).1 = 0 then
      (if sk (Z 2) t (plE Z t i) < t then
        (if Z 2 (sk (Z 2) t (plE Z t i)) = 44 then lp Z t N d (sk (Z 2) t (plE Z t i) + 1) (k + 1) (plB Z t i nb) (upd oc k (nI (plO Z t i))) (upd sh k (plS Z t N i)) (upd wd k (plW Z t i))
        else ((1, nI (sk (Z 2) t (plE Z t i))), k, nb, oc, sh, wd))
      else ((0, -1), k + 1, plB Z t i nb, upd oc k (nI (plO Z t i)), upd sh k (plS Z t N i), upd wd k (plW Z t i)))
    else (plF Z t N i k nb sh, k, nb, oc, sh, wd)
/-- what the class's parser holds at its end -/
def CR (Z : XT) (t : Nat) (dd ff : Int32) (R : (Nat × Int32) × Nat × Nat × (Nat → Int32) × (Nat → Int32) × (Nat → Int32)) (U : XT) : Prop :=
  (∃ i, CP Z t i R.1 U) ∧ (R.1.1 = 0 → DA R.2.1 R.2.2.1 R.2.2.2.1 R.2.2.2.2.1 R.2.2.2.2.2 dd ff U)
theorem nF_0 {b : Nat → Int32} {t lo hi i : Nat} (h : (nF b t lo hi i).1 = 0) : lo ≤ nV b t i ∧ nV b t i ≤ hi ∧ ¬ nE b t i = sk b t i := by
  unfold nF at h
  by_cases g : nE b t i = sk b t i
  · rw [if_pos g] at h
    exact absurd h (by show ¬ 1 = 0; omega)
  · rw [if_neg g] at h
    by_cases g2 : 3 < nE b t i - sk b t i ∨ ¬ (lo ≤ nV b t i ∧ nV b t i ≤ hi)
    · rw [if_pos g2] at h
      exact absurd h (by show ¬ 2 = 0; omega)
    · refine ⟨?_, ?_, g⟩
      · exact (Classical.not_not.mp (fun y => g2 (Or.inr y))).1
      · exact (Classical.not_not.mp (fun y => g2 (Or.inr y))).2
theorem plF_ok {Z : XT} {t N i k nb : Nat} {sh : Nat → Int32} (hnb : nb ≤ 10) (h : (plF Z t N i k nb sh).1 = 0) : plF Z t N i k nb sh = (0, -1) ∧ k < 4 ∧ plO Z t i < 4 ∧ ((plS Z t N i = -1 ∧ plB Z t i nb = nb + 1 ∧ nb < 10 ∧ ∃ v, v ≤ 200 ∧ plW Z t i = nI v) ∨ (∃ n, n < N ∧ plS Z t N i = nI n ∧ plB Z t i nb = nb ∧ plW Z t i = 0)) := by
  by_cases g : (plQ (Z 2) t i k).1 = 0
  · obtain ⟨q0, hk, qw, qn⟩ := plQ_0 g
    have hO := nF_0 qn
    have e1 : plF Z t N i k nb sh = _ := if_pos g
    by_cases h91 : chr (Z 2) t (pj (Z 2) t i) = 91
    · rw [if_pos h91] at e1
      by_cases h10 : 10 ≤ nb
      · rw [e1, if_pos h10] at h
        exact absurd h (by show ¬ 5 = 0; omega)
      · rw [if_neg h10] at e1
        rw [e1] at h
        have h1 := flF_z.mp h
        have h2 := flF_z.mp h1.1
        have hW := nF_0 h2.2
        refine ⟨?_, hk, ?_, Or.inl ⟨if_pos h91, if_pos h91, by omega, _, hW.2.1, if_pos h91⟩⟩
        · rw [e1]
          unfold bjF
          rw [flF_0 h1.2, flF_0 h2.2]
        · unfold plO
          omega
    · rw [if_neg h91] at e1
      by_cases hL : pj (Z 2) t i < t ∧ isLb (Z 2 (pj (Z 2) t i)) = true
      · rw [if_pos hL] at e1
        by_cases hb : nmA Z t N (pj (Z 2) t i) = -1 ∨ tkn sh (nmA Z t N (pj (Z 2) t i)) k = true
        · rw [e1, if_pos hb] at h
          exact absurd h (by show ¬ 3 = 0; omega)
        · rw [if_neg hb] at e1
          rcases fst_or (isN (Z 5) (Z 6) (Z 2) (pj (Z 2) t i) (eow (Z 2) (t - pj (Z 2) t i) (pj (Z 2) t i) - pj (Z 2) t i)) N 0 with e | ⟨n, _, hnN, _, e⟩
          · exact absurd (Or.inl e) hb
          · exact ⟨e1, hk, by unfold plO; omega, Or.inr ⟨n, by omega, (if_neg h91).trans e, if_neg h91, if_neg h91⟩⟩
      · rw [e1, if_neg hL] at h
        exact absurd h (by show ¬ 1 = 0; omega)
  · rw [show plF Z t N i k nb sh = plQ (Z 2) t i k from if_neg g] at h
    exact absurd h g
theorem plB_le {Z : XT} {t N i k nb : Nat} {sh : Nat → Int32} (hnb : nb ≤ 10) (h : (plF Z t N i k nb sh).1 = 0) : plB Z t i nb ≤ 10 := by
  rcases (plF_ok hnb h).2.2.2 with y | ⟨n, y1, y2, y3, y4⟩
  · omega
  · omega
theorem sk_lt_44 {b : Nat → Int32} {t e : Nat} (he : e ≤ t) (h : sk b t e < t) : (sE b t 44 (sk b t e) = if b (sk b t e) = 44 then sk b t e + 1 else sk b t e) ∧ (sF b t 44 (sk b t e) = if b (sk b t e) = 44 then (0, 0) else (1, sk b t e)) := by
  have e1 : chr b t (sk b t e) = b (sk b t e) := by unfold chr; rw [if_pos h]
  unfold sE sF
  rw [sk_sk he, e1]
  exact ⟨rfl, rfl⟩
section CLOOP
variable {Z X : XT} {Y : YT} {QV : XT → YT → Prop} {t N : Nat}
theorem s_loop (z : TZ Z t) (hN : N ≤ 10) (hn : Z 3 9 = nI N) (hs : ∀ j, ∃ v, v ≤ 12 ∧ Z 6 j = nI v) {dd ff : Int32} {I73 : Int32 → Int32 → XT → YT → Prop} (h73 : ∀ (a2 : Int32) (a3 : Int32) (X : XT) (Y : YT), BX2_parse_73 I73 QV a2 a3 X Y → I73 a2 a3 X Y) :
    ∀ d i k nb oc sh wd X, d + k = 5 → k ≤ 4 → nb ≤ 10 → CP Z t i (0, -1) X → DA k nb oc sh wd dd ff X → (∀ U, CR Z t dd ff (lp Z t N d i k nb oc sh wd) U → QV U Y) → I73 1 (nI k) X Y := by
  intro d
  induction d with
  | zero => intro i k nb oc sh wd X h1 h2; omega
  | succ d ih =>
    intro i k nb oc sh wd X h1 h2 hnb c da hq
    have ht := z.1
    have out : ∀ r k' U (p : Nat × Int32) i', k' < 100 → ¬ p.1 = 0 → CP Z t i' p U → QV U Y → I73 r (nI k') U Y := by
      intro r k' U p i' hk' hp cu hu
      apply h73
      unfold BX2_parse_73
      have e0 : (nI p.1 = 0) = (p.1 = 0) := eq_nI (b := 0) (by have := cu.2.2.2.2.2; omega) (by omega)
      rw [cu.2.2.2.1, e0]
      exact ⟨fun _ => hu, fun _ => ⟨fun _ => hu, fun _ => ⟨fun _ => hu, fun y => absurd y hp⟩⟩⟩
    apply h73
    unfold BX2_parse_73
    rw [i_lt, show (4 : Int32) = nI 4 from rfl, le_nI (by omega) (by omega)]
    refine ⟨fun y => absurd h2 y, fun _ => ⟨fun y => absurd y (by decide), fun _ => ⟨fun y => absurd c.2.2.2.1 y, fun _ => ?_⟩⟩⟩
    refine s_place z hN hn hs h2 hnb c da (fun U i' cu hu => ?_)
    unfold lp at hq
    by_cases g : (plF Z t N i k nb sh).1 = 0
    · rw [if_pos g] at hq
      obtain ⟨e1, hk, du⟩ := hu g
      have e0 : plF Z t N i k nb sh = (0, -1) := (plF_ok hnb g).1
      rw [e0, e1] at cu
      have hle := cu.2.2.1
      refine s_comma z cu (fun y W cw fw w12 e12 => ?_) (fun y W cw fw w12 e12 => ?_)
      · rw [if_pos y] at hq
        rw [e12, nI_1]
        obtain ⟨s1, s2⟩ := sk_lt_44 (b := Z 2) hle y
        rw [s1, s2] at cw
        by_cases g4 : Z 2 (sk (Z 2) t (plE Z t i)) = 44
        · rw [if_pos g4] at hq
          rw [if_pos g4, if_pos g4, flF_no] at cw
          exact ih _ _ _ _ _ _ W (by omega) (by omega) (plB_le hnb g) cw (du.f3 fw) hq
        · rw [if_neg g4] at hq
          rw [if_neg g4, if_neg g4, flF_yes (by omega), fl_0] at cw
          refine out 1 (k + 1) W _ _ (by omega) (by show ¬ 1 = 0; omega) cw (hq W ⟨⟨_, cw⟩, fun y => absurd y (by show ¬ 1 = 0; omega)⟩)
      · rw [if_neg y] at hq
        rw [e12, nI_1]
        have hu := hq W ⟨⟨_, cw⟩, fun _ => du.f3 fw⟩
        apply h73
        unfold BX2_parse_73
        exact ⟨fun _ => hu, fun _ => ⟨fun _ => hu, fun y => absurd rfl y⟩⟩
    · rw [if_neg g] at hq
      refine s_comma z cu (fun y W cw fw w12 e12 => ?_) (fun y W cw fw w12 e12 => ?_)
      · rw [e12, nI_1]
        rw [flF_st g] at cw
        exact out 1 (k + 1) W _ _ (by omega) g cw (hq W ⟨⟨_, cw⟩, fun y => absurd y g⟩)
      · rw [e12, nI_1]
        exact out 0 (k + 1) W _ _ (by omega) g cw (hq W ⟨⟨_, cw⟩, fun y => absurd y g⟩)
end CLOOP
