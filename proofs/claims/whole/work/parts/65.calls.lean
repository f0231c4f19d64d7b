/-! readings, reading, may, together, sees, betrayed -/
theorem srch_ok {m N w : Nat} {ok : Nat → (Nat → Nat) → Nat → Bool} (hm : m ≤ 18) : (∀ r ∈ (srch m N w ok).2, ∀ s, s < m → 1 ≤ r s ∧ r s ≤ N) ∧ (srch m N w ok).2.length ≤ 3000 ∧ (srch m N w ok).2.length ≤ w + 1 ∧ (w < (srch m N w ok).2.length → (srch m N w ok).1 = false) := by
  by_cases h0 : m = 0
  · have e : srch m N w ok = (false, [fun _ => 0]) := by unfold srch; rw [if_pos h0]
    rw [e]
    refine ⟨fun r _ s hs => absurd hs (by omega), by simp, by simp, fun _ => rfl⟩
  · exact run_end fuel0 0 (fun _ => 0) 0 [] _ _ (St.init (by omega)) (srch_run hm (by omega))
theorem bt0 {b : Bool} : (nI b.toNat = 0) = (b = false) := by cases b <;> simp <;> decide
section CALLS2
variable {Z X : XT} {Y : YT} {Q : Int32 → XT → YT → Prop} {QV : XT → YT → Prop} {K : XT → YT → Prop} {rd w m : Nat} {a b c : Int32}
theorem EndC.fr {pg al : Nat → Nat} {tw : Nat → Nat → Bool} {A U : XT} {V : YT} {L : Bool} {rs : List (Nat → Nat)} (ch : CH Z m pg al tw A) (e : EndC Z m w A L rs U V) : FR Z U ∧ U 31 3 = nI m :=
  ⟨ch.1.trans (FR.only [39, 40, 41, 42, 43, 44, 45, 46] (by intro q hq; simp at hq; omega) (fun q hq => e.1 q (by simp at hq; omega))), by rw [e.1 31 (by omega)]; exact ch.2.2.1⟩
theorem srA_may (h : Inv Z) {v s : Nat} (hs : s < nsl Z (pA Z) 0) : tMay s (srA Z v rd w).2 < 1024 := pow_le_1024 (i_N h).1 (tMay_lt hs (srch_ok (nsl_le h)).1)
/-- the answers that two ends give -/
theorem s_cntC (h : Inv Z) (cx : FR Z X) (hrd : rd < 16) (hq : ∀ U V r, FR Z U → r = (if (srA Z (cl Z 48 9) rd 3000).1 = true then -1005 else nI (srA Z (cl Z 48 9) rd 3000).2.length) → Q r U V) : PX9_countReadings (nI rd) X Y Q := by
  unfold PX9_countReadings BX9_countReadings_s
  refine s_goC (w := 3000) h cx hrd (show 3000 < 2147483648 by omega) (fun A U V ch _ e => ?_)
  obtain ⟨e1, e2, e3, e4, e5⟩ := id e
  rw [e3, bt0, e4.1]
  refine ⟨fun g => hq U V _ (e.fr ch).1 ?_, fun g => hq U V _ (e.fr ch).1 ?_⟩
  · rw [if_neg (by rw [g]; decide)]
  · rw [if_pos (by cases hh : (srA Z (cl Z 48 9) rd 3000).1 with | true => rfl | false => exact absurd hh g)]
theorem s_mayC (h : Inv Z) (cx : FR Z X) (hrd : rd < 16) {i : Nat} (hi : i < dB Z) (hq : ∀ U V r, FR Z U → r = (if (srA Z (cl Z 48 9) rd 3000).1 = true then -1005 else nI (tMay i (srA Z (cl Z 48 9) rd 3000).2)) → Q r U V) : PX9_mayToReaders (nI rd) (nI i) X Y Q := by
  unfold PX9_mayToReaders BX9_mayToReaders_s
  have hB := i_B h
  refine s_goC (w := 3000) h cx hrd (show 3000 < 2147483648 by omega) (fun A U V ch _ e => ?_)
  obtain ⟨e1, e2, e3, e4, e5⟩ := id e
  rw [e3, bt0, cl_nI (by omega), e4.2.2.1 i (by rw [nslA h]; exact hi)]
  refine ⟨fun g => ⟨vp_in_nI (by omega) (by omega), hq U V _ (e.fr ch).1 ?_⟩, fun g => hq U V _ (e.fr ch).1 ?_⟩
  · rw [if_neg (by rw [g]; decide)]
  · rw [if_pos (by cases hh : (srA Z (cl Z 48 9) rd 3000).1 with | true => rfl | false => exact absurd hh g)]
theorem ret_0 {L : Bool} {r : Int32} (h : r = nI (!L).toNat) : (r = 0) = (L = true) := by
  rw [h, bt0]
  cases L <;> simp
theorem pr_readings (h : Inv X) (hK : ∀ X2 Y2, Inv X2 → K X2 Y2) : PX9_readings X Y (fun r X1 Y1 => PX10_readings X1 Y1 (Kq K r)) := by
  unfold PX9_readings BX9_readings_s
  refine s_cntC (rd := 0) h FR.refl (by omega) (fun U V r cU hr => ?_)
  unfold PX10_readings BX10_readings_s
  refine s_goM0 h cU (fun ret W V' e => ?_)
  obtain ⟨e1, e2, e3, ⟨e0, _, e4⟩, e5⟩ := e
  rw [ret_0 e1, e4.1]
  refine ⟨fun g => kq ?_ (hK _ _ (inv_FR h e2)), fun g => kq ?_ (hK _ _ (inv_FR h e2))⟩
  · rw [hr, if_pos g]
  · rw [hr, if_neg g]
theorem eq_areR {p : Int32} : PX9_areReaders p X Y Q = Q (bI (0 ≤ p ∧ p ≤ 15)) X Y := by
  unfold PX9_areReaders BX9_areReaders_s
  rw [eq_allBelow, show ((1 : Int32) <<< ((4 : Int32) &&& 31)) - 1 = 15 by decide, eq_within]
  simp only [bI_nar, true_and]
theorem pr_together (h : Inv X) (hK : ∀ X2 Y2, Inv X2 → K X2 Y2) : PX9_together a X Y (fun r X1 Y1 => PX10_together a X1 Y1 (Kq K r)) := by
  unfold PX9_together BX9_together_s
  rw [eq_areR]
  simp only [bI_0, Classical.not_not]
  refine ⟨fun g => ?_, fun g => ?_⟩
  · unfold PX10_together BX10_together_s
    rw [l64_0, l64_15, eq_in3]
    simp only [bI_0, Classical.not_not]
    exact ⟨fun z => absurd z g, fun _ => kq rfl (hK _ _ h)⟩
  · obtain ⟨rd, _, hrd, rfl⟩ := in_rng (a := 0) (b := 15) (by omega) (by omega) g
    refine s_cntC h FR.refl (by omega) (fun U V r cU hr => ?_)
    unfold PX10_together BX10_together_s
    rw [l64_0, l64_15, eq_in3]
    simp only [bI_0, Classical.not_not]
    refine ⟨fun _ => s_goMJ h cU (by omega) (fun ret W V' e => ?_), fun z => absurd g z⟩
    obtain ⟨e1, e2, e3, ⟨e0, _, e4⟩, e5⟩ := e
    rw [ret_0 e1, e4.1]
    refine ⟨fun g => kq ?_ (hK _ _ (inv_FR h e2)), fun g => kq ?_ (hK _ _ (inv_FR h e2))⟩
    · rw [hr, if_pos g]
    · rw [hr, if_neg g]
theorem pr_may (h : Inv X) (hK : ∀ X2 Y2, Inv X2 → K X2 Y2) : PX9_may a X Y (fun r X1 Y1 => PX10_may a X1 Y1 (Kq K r)) := by
  have hB := i_B h
  unfold PX9_may BX9_may_s
  rw [eq_isBar, c_B h, hB.2.1]
  simp only [bI_0, Classical.not_not]
  refine ⟨fun g => ?_, fun g => ?_⟩
  · unfold PX10_may BX10_may_s
    rw [eq_noBar, hB.2.1]
    simp only [bI_0, Classical.not_not]
    exact ⟨fun z => absurd z g, fun _ => kq rfl (hK _ _ h)⟩
  · obtain ⟨i, hi, rfl⟩ := kn_of (N := dB X) (by omega) g
    refine s_mayC (rd := 0) h FR.refl (by omega) hi (fun U V r cU hr => ?_)
    unfold PX10_may BX10_may_s
    rw [eq_noBar, cU.2 22 (by omega), hB.2.1]
    simp only [bI_0, Classical.not_not]
    refine ⟨fun _ => s_goM0 h cU (fun ret W V' e => ?_), fun z => absurd g z⟩
    obtain ⟨e1, e2, e3, ⟨e0, _, e4⟩, e5⟩ := e
    rw [ret_0 e1]
    refine ⟨fun g => kq ?_ (hK _ _ (inv_FR h e2)), fun g => s_posOf h e2 e3 hi ⟨vp_in_nI (by omega) (by omega), kq ?_ (hK _ _ (inv_FR h e2))⟩⟩
    · rw [hr, if_pos g]
    · rw [hr, if_neg g, cl_nI (by omega), e4.2.2.2.1 i (by rw [nslA h]; exact hi)]
theorem pr_sees (h : Inv X) (hK : ∀ X2 Y2, Inv X2 → K X2 Y2) : PX9_sees a b X Y (fun r X1 Y1 => PX10_sees a b X1 Y1 (Kq K r)) := by
  have hB := i_B h
  unfold PX9_sees BX9_sees_s
  rw [eq_areR, eq_isBar, c_B h, hB.2.1]
  simp only [bI_0, Classical.not_not]
  refine ⟨fun g => ?_, fun g => ⟨fun g2 => ?_, fun g2 => ?_⟩⟩
  · unfold PX10_sees BX10_sees_s
    rw [l64_0, l64_15, eq_in3]
    simp only [bI_0, Classical.not_not]
    exact ⟨fun _ => kq rfl (hK _ _ h), fun z => absurd z g⟩
  · unfold PX10_sees BX10_sees_s
    rw [l64_0, l64_15, eq_in3, eq_noBar, hB.2.1]
    simp only [bI_0, Classical.not_not]
    exact ⟨fun z => absurd g z, fun _ => ⟨fun z => absurd z g2, fun _ => kq rfl (hK _ _ h)⟩⟩
  · obtain ⟨rd, _, hrd, rfl⟩ := in_rng (a := 0) (b := 15) (by omega) (by omega) g
    obtain ⟨i, hi, rfl⟩ := kn_of (N := dB X) (by omega) g2
    refine s_mayC h FR.refl (by omega) hi (fun U V r cU hr => ?_)
    unfold PX10_sees BX10_sees_s
    rw [l64_0, l64_15, eq_in3, eq_noBar, cU.2 22 (by omega), hB.2.1]
    simp only [bI_0, Classical.not_not]
    refine ⟨fun z => absurd g z, fun _ => ⟨fun _ => s_goMJ h cU (by omega) (fun ret W V' e => ?_), fun z => absurd g2 z⟩⟩
    obtain ⟨e1, e2, e3, ⟨e0, _, e4⟩, e5⟩ := e
    rw [ret_0 e1]
    refine ⟨fun g => kq ?_ (hK _ _ (inv_FR h e2)), fun g => s_posOf h e2 e3 hi ⟨vp_in_nI (by omega) (by omega), kq ?_ (hK _ _ (inv_FR h e2))⟩⟩
    · rw [hr, if_pos g]
    · rw [hr, if_neg g, cl_nI (by omega), e4.2.2.2.1 i (by rw [nslA h]; exact hi)]
theorem pr_betrayed (h : Inv X) (hK : ∀ X2 Y2, Inv X2 → K X2 Y2) : PX9_betrayed a X Y (fun r X1 Y1 => PX10_betrayed a X1 Y1 (Kq K r)) := by
  unfold PX9_betrayed BX9_betrayed_s
  rw [eq_areR]
  simp only [bI_0, Classical.not_not]
  refine ⟨fun g => ?_, fun g => ?_⟩
  · obtain ⟨rd, _, hrd, rfl⟩ := in_rng (a := 0) (b := 15) (by omega) (by omega) g
    have ref : ∀ U V r, FR X U → r = (if (srA X (cl X 48 9) rd 3000).1 = true then -1005 else nI (told (nsl X (pA X) 0) (srA X (cl X 48 9) rd 3000).2 &&& cl X 48 10)) → PX10_betrayed (nI rd) U V (Kq K r) := by
      intro U V r cU hr
      unfold PX10_betrayed BX10_betrayed_s
      rw [l64_0, l64_15, eq_in3]
      simp only [bI_0, Classical.not_not]
      refine ⟨fun _ => s_goMJ h cU (by omega) (fun ret W V' e => ?_), fun z => absurd g z⟩
      obtain ⟨e1, e2, e3, ⟨e0, _, e4⟩, e5⟩ := e
      rw [ret_0 e1]
      refine ⟨fun g => kq ?_ (hK _ _ (inv_FR h e2)), fun g => s_betM h e2 (nsl_le h) e3.1 e4.2.2.2.1 (kq ?_ (hK _ _ (inv_FR h e2)))⟩
      · rw [hr, if_pos g]
      · rw [hr, if_neg g]
    refine s_goC h FR.refl (by omega) (w := 3000) (by omega) (fun A U V ch _ e => ?_)
    have ef := e.fr ch
    obtain ⟨e1, e2, e3, e4, e5⟩ := id e
    rw [e3, bt0]
    refine ⟨fun g => s_betC h ef.1 (nsl_le h) ef.2 (fun s hs => srA_may h hs) e4.2.2.1 (ref U V _ ef.1 ?_), fun g => ref U V _ ef.1 ?_⟩
    · rw [if_neg (by rw [g]; decide)]
    · rw [if_pos (by cases hh : (srA X (cl X 48 9) rd 3000).1 with | true => rfl | false => exact absurd hh g)]
  · unfold PX10_betrayed BX10_betrayed_s
    rw [l64_0, l64_15, eq_in3]
    simp only [bI_0, Classical.not_not]
    exact ⟨fun z => absurd z g, fun _ => kq rfl (hK _ _ h)⟩
theorem pr_reading (h : Inv X) (hK : ∀ X2 Y2, Inv X2 → K X2 Y2) : PX9_reading a b X Y (fun r X1 Y1 => PX10_reading a b X1 Y1 (Kq K r)) := by
  have hB := i_B h
  have hA := pA_lt h
  unfold PX9_reading BX9_reading_s
  rw [eq_isBar, c_B h, hB.2.1]
  simp only [bI_0, Classical.not_not]
  refine ⟨fun g => ⟨fun g2 => ?_, fun g2 => ?_⟩, fun g => ?_⟩
  · obtain ⟨j, hj, rfl⟩ := kn_of (N := dB X) (by omega) g
    obtain ⟨i, hi, rfl⟩ := nI_of (x := a) (by rw [i_lt]; simpa using g2)
    have ok := srch_ok (m := nsl X (pA X) 0) (N := dN X) (w := i) (ok := okS (fun s => cl X 60 (pls X (pA X) 0 s)) (alR X (cl X 48 9) 0) (cl X 56) (twB X (pA X) 0)) (nsl_le h)
    have ref : ∀ U V r, FR X U → ((srA X (cl X 48 9) 0 i).2.length ≤ i → r = (if (srA X (cl X 48 9) 0 i).1 = true then -1005 else -1)) → (∀ x rest, (srA X (cl X 48 9) 0 i).2 = x :: rest → i < (srA X (cl X 48 9) 0 i).2.length → r = nI (x j - 1)) → PX10_reading (nI i) (nI j) U V (Kq K r) := by
      intro U V r cU hr1 hr2
      unfold PX10_reading BX10_reading_s
      rw [eq_noBar, cU.2 22 (by omega), hB.2.1]
      simp only [bI_0, Classical.not_not]
      refine ⟨fun _ => ⟨fun _ => s_begin h cU (fun W cW u37 u38 u39 u41 u53 u54 u71 _ => ?_), fun z => absurd g2 z⟩, fun z => absurd g z⟩
      have y48 : ∀ q, q ≠ 53 → q ≠ 54 → (sX (sX W 48 53 (nI i)) 48 54 (nI j)) 48 q = W 48 q := fun q h1 h2 => by rw [sX_eq, sX_eq]; unfold upd; rw [if_neg h2, if_neg h1]
      refine s_goM (v := cl X 48 9) (ps := pA X) (bs := 0) (aw := 0) (al := alR X (cl X 48 9) 0) (mu := fun _ => -1) (w := i) (wb := nI j) h (by have := (i_sl h).1; omega) (by omega) (by omega) (show 0 < 2147483648 by omega) (by omega) (Or.inr rfl) ((Jn.none (Z := X)).al h) ⟨(cW.set48 (by omega)).set48 (by omega), by rw [y48 37 (by decide) (by decide)]; exact u37, by rw [y48 38 (by decide) (by decide)]; exact u38, by rw [y48 39 (by decide) (by decide)]; exact u39, by rw [y48 41 (by decide) (by decide)]; exact u41, by rw [sX_ne (by decide), sX_ne (by decide)]; exact u71⟩ (by rw [sX_eq, sX_eq]; simp [upd]) (by rw [sX_eq]; simp [upd]) (fun ret W' V' e => ?_)
      obtain ⟨e1, e2, e3, ⟨e0, _, e4⟩, e5, e6⟩ := e
      rw [ret_0 e1]
      refine ⟨fun g => kq ?_ (hK _ _ (inv_FR h e2)), fun g => kq ?_ (hK _ _ (inv_FR h e2))⟩
      · have hl : (srA X (cl X 48 9) 0 i).2.length ≤ i := by
          rcases Nat.lt_or_ge i (srA X (cl X 48 9) 0 i).2.length with z | z
          · have z2 := ok.2.2.2 z
            have g' : (srA X (cl X 48 9) 0 i).1 = true := g
            rw [show (srA X (cl X 48 9) 0 i).1 = false from z2] at g'
            cases g'
          · exact z
        rw [hr1 hl, if_pos (show (srA X (cl X 48 9) 0 i).1 = true from g)]
      · by_cases hl : (srA X (cl X 48 9) 0 i).2.length ≤ i
        · rw [hr1 hl, if_neg (show ¬ (srA X (cl X 48 9) 0 i).1 = true from g)]
          exact (e5 hl).symm
        · have hl' : i < (srA X (cl X 48 9) 0 i).2.length := by omega
          cases hrs : (srA X (cl X 48 9) 0 i).2 with
          | nil =>
            rw [hrs] at hl'
            simp at hl'
          | cons x rest =>
            rw [hr2 x rest hrs hl']
            exact (e6 hl' j j x rest (show j < 10 by omega) hrs rfl (isBarA h hj)).symm
    refine s_goC (rd := 0) (w := i) h FR.refl (by omega) (by omega) (fun A U V ch _ e => ?_)
    have ef := e.fr ch
    obtain ⟨e1, e2, e3, e4, e5⟩ := id e
    have len : (srA X (cl X 48 9) 0 i).2.length ≤ 3000 := ok.2.1
    rw [e3, bt0, e4.1, le_nI (by omega) (by omega), cl_nI (by omega)]
    refine ⟨fun g3 => ⟨fun g4 => ref U V _ ef.1 (fun _ => ?_) (fun _ _ _ z => absurd g3 (by omega)), fun g4 => ref U V _ ef.1 (fun _ => ?_) (fun _ _ _ z => absurd g3 (by omega))⟩, fun g3 => ⟨vp_in_nI (by omega) (by omega), ref U V _ ef.1 (fun z => absurd z g3) (fun x rest hrs z => ?_)⟩⟩
    · rw [if_neg (by rw [g4]; decide)]
    · rw [if_pos (by cases hh : (srA X (cl X 48 9) 0 i).1 with | true => rfl | false => exact absurd hh g4)]
    · exact e5 z x rest hrs j (by rw [nslA h]; exact hj)
  · unfold PX10_reading BX10_reading_s
    rw [eq_noBar, hB.2.1]
    simp only [bI_0, Classical.not_not]
    exact ⟨fun _ => ⟨fun z => absurd z g2, fun _ => kq rfl (hK _ _ h)⟩, fun z => absurd g z⟩
  · unfold PX10_reading BX10_reading_s
    rw [eq_noBar, hB.2.1]
    simp only [bI_0, Classical.not_not]
    exact ⟨fun z => absurd z g, fun _ => kq rfl (hK _ _ h)⟩
end CALLS2
